def mtOK (mr mc : Nat → Nat) (b t x y : Nat) : Prop := if b < 2 then 0 < mr t else if b = 2 then 0 < mr t ∧ mr t = mc t else if b < 6 then 0 < mr x else if b < 8 then 0 < mr x ∧ mr x = mr y ∧ mc x = mc y else 0 < mr x ∧ 0 < mr y ∧ mc x = mr y
def mtR (mr mc : Nat → Nat) (b t x : Nat) : Nat := if b < 3 then mr t else if b = 3 then mc x else mr x
def mtC (mr mc : Nat → Nat) (b t x y : Nat) : Nat := if b < 3 then mc t else if b = 3 then mr x else if b = 8 then mc y else mc x
def SzA (A : Mem) (mr mc : Nat → Nat) : Prop := ∀ m, m < 3 → gI A (12 + m) 0 = iN (mr m) ∧ gI A (12 + m) 1 = iN (mc m) ∧ mr m ≤ 6 ∧ mc m ≤ 6
section CFT
variable {A : Mem} {mr mc : Nat → Nat} {t x y : Nat}
theorem n_there {o a : Nat} {K : Bool → Mem → Prop} (hk : kd o = 7) (h0 : gI A o 0 = iN a) (ha : a ≤ 6) (k1 : 0 < a → K true A) (k2 : ¬ 0 < a → K false A) : wp_Mx_isThere o A K := by
  unfold wp_Mx_isThere
  rw [h0, show (0 : Int32) = iN 0 from rfl, iN_le (by omega) (by omega)]
  exact ⟨hk, fun q => k2 (by omega), fun q => k1 (by omega)⟩
theorem n_square {o a b : Nat} {K : Bool → Mem → Prop} (hk : kd o = 7) (h0 : gI A o 0 = iN a) (h1 : gI A o 1 = iN b) (ha : a ≤ 6) (hb : b ≤ 6) (k1 : a = b → K true A) (k2 : a ≠ b → K false A) : wp_Mx_isSquare o A K := by
  unfold wp_Mx_isSquare
  rw [h0, h1, iN_eq (by omega) (by omega)]
  exact ⟨hk, k2, k1⟩
theorem n_sized {o p a b c d : Nat} {K : Bool → Mem → Prop} (hk : kd o = 7) (hp : kd p = 7) (h0 : gI A o 0 = iN a) (h1 : gI A o 1 = iN b) (g0 : gI A p 0 = iN c) (g1 : gI A p 1 = iN d) (ha : a ≤ 6) (hb : b ≤ 6) (hc : c ≤ 6) (hd : d ≤ 6) (k1 : a = c → b = d → K true A) (k2 : ¬ (a = c ∧ b = d) → K false A) : wp_Mx_isSizedAs o p A K := by
  unfold wp_Mx_isSizedAs
  rw [h0, h1, g0, g1, iN_eq (by omega) (by omega), iN_eq (by omega) (by omega)]
  exact ⟨hk, hp, fun q => k2 (fun q' => q q'.1), fun q => ⟨fun q2 => k2 (fun q' => q2 q'.2), fun q2 => k1 q q2⟩⟩
theorem ft_0 {K : Bool → Mem → Prop} (h : SzA A mr mc) (ht : t < 3) (hx : x < 3) (hy : y < 3) (k1 : 0 < mr t → K true A) (k2 : ¬ (0 < mr t) → K false A) : wp_Ca_fits 1100 (12 + t) (12 + x) (12 + y) A K := by
  unfold wp_Ca_fits
  exact ⟨⟨by omega, by omega⟩, iN_in (a := 0) (m := 9) (by omega) (by omega), ⟨(fun _ => ⟨(kd_m4 (by omega)).1, n_there (kd_m4 (by omega)).1 (h t ht).1 (h t ht).2.2.1 (fun q => k1 q) (fun q => k2 (fun q2 => q q2))⟩), (fun q => absurd q (by decide)), (fun q => absurd q (by decide)), (fun q => absurd q (by decide)), (fun q => absurd q (by decide)), (fun q => absurd q (by decide)), (fun q1 q2 q3 q4 q5 q6 => absurd (by decide) q1)⟩⟩
theorem ft_1 {K : Bool → Mem → Prop} (h : SzA A mr mc) (ht : t < 3) (hx : x < 3) (hy : y < 3) (k1 : 0 < mr t → K true A) (k2 : ¬ (0 < mr t) → K false A) : wp_Ca_fits 1101 (12 + t) (12 + x) (12 + y) A K := by
  unfold wp_Ca_fits
  exact ⟨⟨by omega, by omega⟩, iN_in (a := 1) (m := 9) (by omega) (by omega), ⟨(fun q => absurd q (by decide)), (fun _ => ⟨(kd_m4 (by omega)).1, n_there (kd_m4 (by omega)).1 (h t ht).1 (h t ht).2.2.1 (fun q => k1 q) (fun q => k2 (fun q2 => q q2))⟩), (fun q => absurd q (by decide)), (fun q => absurd q (by decide)), (fun q => absurd q (by decide)), (fun q => absurd q (by decide)), (fun q1 q2 q3 q4 q5 q6 => absurd (by decide) q2)⟩⟩
theorem ft_2 {K : Bool → Mem → Prop} (h : SzA A mr mc) (ht : t < 3) (hx : x < 3) (hy : y < 3) (k1 : 0 < mr t ∧ mr t = mc t → K true A) (k2 : ¬ (0 < mr t ∧ mr t = mc t) → K false A) : wp_Ca_fits 1102 (12 + t) (12 + x) (12 + y) A K := by
  unfold wp_Ca_fits
  exact ⟨⟨by omega, by omega⟩, iN_in (a := 2) (m := 9) (by omega) (by omega), ⟨(fun q => absurd q (by decide)), (fun q => absurd q (by decide)), (fun _ => ⟨(kd_m4 (by omega)).1, n_there (kd_m4 (by omega)).1 (h t ht).1 (h t ht).2.2.1 (fun q => ⟨fun q9 => (by cases q9), fun _ => n_square (kd_m4 (by omega)).1 (h t ht).1 (h t ht).2.1 (h t ht).2.2.1 (h t ht).2.2.2 (fun q2 => ⟨fun q9 => (by cases q9), fun _ => k1 ⟨q, q2⟩⟩) (fun q2 => ⟨fun _ => k2 (fun q3 => q2 q3.2), fun q9 => (by cases q9)⟩)⟩) (fun q => ⟨fun _ => k2 (fun q3 => q q3.1), fun q9 => (by cases q9)⟩)⟩), (fun q => absurd q (by decide)), (fun q => absurd q (by decide)), (fun q => absurd q (by decide)), (fun q1 q2 q3 q4 q5 q6 => absurd (by decide) q3)⟩⟩
theorem ft_3 {K : Bool → Mem → Prop} (h : SzA A mr mc) (ht : t < 3) (hx : x < 3) (hy : y < 3) (k1 : 0 < mr x → K true A) (k2 : ¬ (0 < mr x) → K false A) : wp_Ca_fits 1107 (12 + t) (12 + x) (12 + y) A K := by
  unfold wp_Ca_fits
  exact ⟨⟨by omega, by omega⟩, iN_in (a := 7) (m := 9) (by omega) (by omega), ⟨(fun q => absurd q (by decide)), (fun q => absurd q (by decide)), (fun q => absurd q (by decide)), (fun q => absurd q (by decide)), (fun q => absurd q (by decide)), (fun q => absurd q (by decide)), (fun _ _ _ _ _ _ => ⟨(kd_m4 (by omega)).1, n_there (kd_m4 (by omega)).1 (h x hx).1 (h x hx).2.2.1 (fun q => k1 q) (fun q => k2 (fun q2 => q q2))⟩)⟩⟩
theorem ft_4 {K : Bool → Mem → Prop} (h : SzA A mr mc) (ht : t < 3) (hx : x < 3) (hy : y < 3) (k1 : 0 < mr x → K true A) (k2 : ¬ (0 < mr x) → K false A) : wp_Ca_fits 1108 (12 + t) (12 + x) (12 + y) A K := by
  unfold wp_Ca_fits
  exact ⟨⟨by omega, by omega⟩, iN_in (a := 8) (m := 9) (by omega) (by omega), ⟨(fun q => absurd q (by decide)), (fun q => absurd q (by decide)), (fun q => absurd q (by decide)), (fun q => absurd q (by decide)), (fun q => absurd q (by decide)), (fun q => absurd q (by decide)), (fun _ _ _ _ _ _ => ⟨(kd_m4 (by omega)).1, n_there (kd_m4 (by omega)).1 (h x hx).1 (h x hx).2.2.1 (fun q => k1 q) (fun q => k2 (fun q2 => q q2))⟩)⟩⟩
theorem ft_5 {K : Bool → Mem → Prop} (h : SzA A mr mc) (ht : t < 3) (hx : x < 3) (hy : y < 3) (k1 : 0 < mr x → K true A) (k2 : ¬ (0 < mr x) → K false A) : wp_Ca_fits 1103 (12 + t) (12 + x) (12 + y) A K := by
  unfold wp_Ca_fits
  exact ⟨⟨by omega, by omega⟩, iN_in (a := 3) (m := 9) (by omega) (by omega), ⟨(fun q => absurd q (by decide)), (fun q => absurd q (by decide)), (fun q => absurd q (by decide)), (fun q => absurd q (by decide)), (fun q => absurd q (by decide)), (fun q => absurd q (by decide)), (fun _ _ _ _ _ _ => ⟨(kd_m4 (by omega)).1, n_there (kd_m4 (by omega)).1 (h x hx).1 (h x hx).2.2.1 (fun q => k1 q) (fun q => k2 (fun q2 => q q2))⟩)⟩⟩
theorem ft_6 {K : Bool → Mem → Prop} (h : SzA A mr mc) (ht : t < 3) (hx : x < 3) (hy : y < 3) (k1 : 0 < mr x ∧ mr x = mr y ∧ mc x = mc y → K true A) (k2 : ¬ (0 < mr x ∧ mr x = mr y ∧ mc x = mc y) → K false A) : wp_Ca_fits 1104 (12 + t) (12 + x) (12 + y) A K := by
  unfold wp_Ca_fits
  exact ⟨⟨by omega, by omega⟩, iN_in (a := 4) (m := 9) (by omega) (by omega), ⟨(fun q => absurd q (by decide)), (fun q => absurd q (by decide)), (fun q => absurd q (by decide)), (fun _ => ⟨(kd_m4 (by omega)).1, n_there (kd_m4 (by omega)).1 (h x hx).1 (h x hx).2.2.1 (fun q => ⟨fun q9 => (by cases q9), fun _ => n_sized (kd_m4 (by omega)).1 (kd_m4 (by omega)).1 (h x hx).1 (h x hx).2.1 (h y hy).1 (h y hy).2.1 (h x hx).2.2.1 (h x hx).2.2.2 (h y hy).2.2.1 (h y hy).2.2.2 (fun q2 q3 => ⟨fun q9 => (by cases q9), fun _ => k1 ⟨q, q2, q3⟩⟩) (fun q2 => ⟨fun _ => k2 (fun q3 => q2 q3.2), fun q9 => (by cases q9)⟩)⟩) (fun q => ⟨fun _ => k2 (fun q3 => q q3.1), fun q9 => (by cases q9)⟩)⟩), (fun q => absurd q (by decide)), (fun q => absurd q (by decide)), (fun q1 q2 q3 q4 q5 q6 => absurd (by decide) q4)⟩⟩
theorem ft_7 {K : Bool → Mem → Prop} (h : SzA A mr mc) (ht : t < 3) (hx : x < 3) (hy : y < 3) (k1 : 0 < mr x ∧ mr x = mr y ∧ mc x = mc y → K true A) (k2 : ¬ (0 < mr x ∧ mr x = mr y ∧ mc x = mc y) → K false A) : wp_Ca_fits 1105 (12 + t) (12 + x) (12 + y) A K := by
  unfold wp_Ca_fits
  exact ⟨⟨by omega, by omega⟩, iN_in (a := 5) (m := 9) (by omega) (by omega), ⟨(fun q => absurd q (by decide)), (fun q => absurd q (by decide)), (fun q => absurd q (by decide)), (fun q => absurd q (by decide)), (fun _ => ⟨(kd_m4 (by omega)).1, n_there (kd_m4 (by omega)).1 (h x hx).1 (h x hx).2.2.1 (fun q => ⟨fun q9 => (by cases q9), fun _ => n_sized (kd_m4 (by omega)).1 (kd_m4 (by omega)).1 (h x hx).1 (h x hx).2.1 (h y hy).1 (h y hy).2.1 (h x hx).2.2.1 (h x hx).2.2.2 (h y hy).2.2.1 (h y hy).2.2.2 (fun q2 q3 => ⟨fun q9 => (by cases q9), fun _ => k1 ⟨q, q2, q3⟩⟩) (fun q2 => ⟨fun _ => k2 (fun q3 => q2 q3.2), fun q9 => (by cases q9)⟩)⟩) (fun q => ⟨fun _ => k2 (fun q3 => q q3.1), fun q9 => (by cases q9)⟩)⟩), (fun q => absurd q (by decide)), (fun q1 q2 q3 q4 q5 q6 => absurd (by decide) q5)⟩⟩
theorem ft_8 {K : Bool → Mem → Prop} (h : SzA A mr mc) (ht : t < 3) (hx : x < 3) (hy : y < 3) (k1 : 0 < mr x ∧ 0 < mr y ∧ mc x = mr y → K true A) (k2 : ¬ (0 < mr x ∧ 0 < mr y ∧ mc x = mr y) → K false A) : wp_Ca_fits 1106 (12 + t) (12 + x) (12 + y) A K := by
  unfold wp_Ca_fits
  exact ⟨⟨by omega, by omega⟩, iN_in (a := 6) (m := 9) (by omega) (by omega), ⟨(fun q => absurd q (by decide)), (fun q => absurd q (by decide)), (fun q => absurd q (by decide)), (fun q => absurd q (by decide)), (fun q => absurd q (by decide)), (fun _ => ⟨(kd_m4 (by omega)).1, n_there (kd_m4 (by omega)).1 (h x hx).1 (h x hx).2.2.1 (fun q => ⟨fun q9 => (by cases q9), fun _ => ⟨(kd_m4 (by omega)).1, n_there (kd_m4 (by omega)).1 (h y hy).1 (h y hy).2.2.1 (fun q2 => ⟨fun q9 => (by cases q9), fun _ => (by rw [(h x hx).2.1, (h y hy).1, iN_eq (by have := (h x hx).2.2.2; omega) (by have := (h y hy).2.2.1; omega)]; exact ⟨fun q3 => k2 (fun q4 => q3 q4.2.2), fun q3 => k1 ⟨q, q2, q3⟩⟩)⟩) (fun q2 => ⟨fun _ => k2 (fun q3 => q2 q3.2.1), fun q9 => (by cases q9)⟩)⟩⟩) (fun q => ⟨fun _ => k2 (fun q3 => q q3.1), fun q9 => (by cases q9)⟩)⟩), (fun q1 q2 q3 q4 q5 q6 => absurd (by decide) q6)⟩⟩
theorem n_fits {b : Nat} {K : Bool → Mem → Prop} (hb : b < 9) (h : SzA A mr mc) (ht : t < 3) (hx : x < 3) (hy : y < 3) (k1 : mtOK mr mc b t x y → K true A) (k2 : ¬ mtOK mr mc b t x y → K false A) : wp_Ca_fits (fmN b) (12 + t) (12 + x) (12 + y) A K := by
  unfold mtOK at k1 k2
  rcases (by omega : b = 0 ∨ b = 1 ∨ b = 2 ∨ b = 3 ∨ b = 4 ∨ b = 5 ∨ b = 6 ∨ b = 7 ∨ b = 8) with e | e | e | e | e | e | e | e | e <;> subst e
  · rw [if_pos (by decide)] at k1 k2
    exact ft_0 h ht hx hy k1 k2
  · rw [if_pos (by decide)] at k1 k2
    exact ft_1 h ht hx hy k1 k2
  · rw [if_neg (by decide), if_pos (by decide)] at k1 k2
    exact ft_2 h ht hx hy k1 k2
  · rw [if_neg (by decide), if_neg (by decide), if_pos (by decide)] at k1 k2
    exact ft_3 h ht hx hy k1 k2
  · rw [if_neg (by decide), if_neg (by decide), if_pos (by decide)] at k1 k2
    exact ft_4 h ht hx hy k1 k2
  · rw [if_neg (by decide), if_neg (by decide), if_pos (by decide)] at k1 k2
    exact ft_5 h ht hx hy k1 k2
  · rw [if_neg (by decide), if_neg (by decide), if_neg (by decide), if_pos (by decide)] at k1 k2
    exact ft_6 h ht hx hy k1 k2
  · rw [if_neg (by decide), if_neg (by decide), if_neg (by decide), if_pos (by decide)] at k1 k2
    exact ft_7 h ht hx hy k1 k2
  · rw [if_neg (by decide), if_neg (by decide), if_neg (by decide), if_neg (by decide)] at k1 k2
    exact ft_8 h ht hx hy k1 k2
end CFT
