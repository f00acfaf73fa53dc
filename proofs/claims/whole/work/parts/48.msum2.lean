/-! the reference's loop: powers, products, sums -/
section YT
variable {A0 : Mem} {T : Nat → Int32} {n lo : Nat} {ag ex : Nat → Int32} {K : Int32 → Mem → Prop} {on : Bool} {bg : Int32} {p op fu ins m0 : Nat} {κ σ : List Int32} {A : Mem} {Sp : PS}
abbrev eRB (A0 : Mem) (T : Nat → Int32) (n lo : Nat) (ag ex : Nat → Int32) (K : Int32 → Mem → Prop) (on : Bool) (bg : Int32) (op ins : Nat) (p : Nat) (κ σ : List Int32) (r : Nat) : Nat → List SOp → Prop := fun p' os =>
  ∀ (κ' π : List Int32) (A' : Mem) (fu' : Nat), 62 ≤ fu' + p' → p < p' → EX A0 n lo ag ex p' op κ' (σ ++ π) A' → κ' ++ π.reverse = κ ++ enc os → (∀ o ∈ π, ¬ 100 ≤ o ∧ r ≤ rk o) → nop T n r p' → κ'.length + (σ ++ π).length ≤ 2 * p' + 1 → eLP K on bg fu' (σ ++ π) ins 0 0 A'
/-- an operand is wanted: not a minus that may stand first -/
theorem yE_opd {f : Int32} (hB : MB0 A0 T n) (h : EX A0 n lo ag ex p op κ σ A) (hf : f = 0 ∨ chr T n p ≠ 45) (hins : ins ≤ 6) (k : wp_Mo_expression_c88 (wp_Mo_expression_c16 K fu) K 250 (bI on) bg (iN σ.length) (iN ins) 1 0 (if ins = 0 then 1 else 0) (bI on) 250 A) : eLP K on bg (fu + 1) σ ins 1 f A := by
  obtain ⟨hF, hp, h4, h5, h5', h7, hsl⟩ := yE_f h
  have k2 : ∀ {P Q : Prop}, ((¬ iN ins = 0 → wp_Mo_expression_c88 (wp_Mo_expression_c16 K fu) K 250 (bI on) bg (iN σ.length) (iN ins) 1 0 0 (bI on) 250 A) ∧ (iN ins = 0 → wp_Mo_expression_c88 (wp_Mo_expression_c16 K fu) K 250 (bI on) bg (iN σ.length) (iN ins) 1 0 1 (bI on) 250 A)) := by
    intro P Q
    rw [show (0 : Int32) = iN 0 from rfl, iN_eq (by omega) (by omega)]
    refine ⟨fun h => ?_, fun h => ?_⟩
    · rw [if_neg h] at k; exact k
    · rw [if_pos h] at k; exact k
  refine ⟨rfl, fun h => absurd h7 h, fun _ => yE_look hB h ⟨fun h => absurd h (by decide), fun _ => ⟨fun _ => k2 (P := True) (Q := True), fun hf0 => ⟨fun _ => k2 (P := True) (Q := True), fun h45 => ?_⟩⟩⟩⟩
  rw [lk_eq hB (by decide)] at h45
  rcases hf with hf | hf
  · exact absurd hf hf0
  · exact absurd h45 hf
/-- an operator -/
theorem yE_opr {c : Int32} {r : Nat} {π : List Int32} (hB : MB0 A0 T n) (h : EX A0 n lo ag ex p op κ (σ ++ π) A) (hc : chr T n p = c) (h0 : 0 < c) (hoc : ¬ opC c ≤ 0) (hr : rk (opC c) = r) (hs : stp r σ) (hπ : ∀ o ∈ π, ¬ 100 ≤ o ∧ r ≤ rk o) (hl : κ.length + (σ ++ π).length ≤ 2 * p + 1)
    (k : ∀ A', EX A0 n lo ag ex (p + 1) op (κ ++ π.reverse) (σ ++ [opC c]) A' → eLP K on bg fu (σ ++ [opC c]) ins 1 0 A') : eLP K on bg (fu + 1) (σ ++ π) ins 0 0 A := by
  obtain ⟨hF, hp, h4, h5, h5', h7, hsl⟩ := yE_f h
  have hn := hB.2.1
  have hpn := chr_lt0 hc (by rintro rfl; exact absurd h0 (by decide))
  have hr4 : r < 4 := by rw [← hr]; exact rk_lt4 _
  have elk : lk0 T n p = c := by rw [lk_eq hB h0]; exact hc
  refine ⟨rfl, fun h => absurd h7 h, fun _ => yE_look hB h ⟨fun _ => y_operator ?_, fun h => absurd rfl h⟩⟩
  rw [elk]
  refine ⟨fun h => absurd h hoc, fun _ => y_rank ?_⟩
  rw [hr]
  refine yE_settle hB h hr4 hs (by simp at hl; omega) hπ (fun A1 h1 => ?_)
  obtain ⟨g1, g2, g3, g4, g5, g6, g7⟩ := yE_f h1
  have hW := (FrM_n hB g1).2.2.2
  have hsl' : σ.length < p + 1 := by simp at hsl; omega
  rw [hW.1 15 (by omega) (by omega), iN_cl (by omega), iN_1]
  refine ⟨rfl, iN_in (m := 64) (by omega) (by omega), fun A24 hA => ?_⟩
  subst hA
  -- the place first, then the push
  have e : sI (sI A1 (243 + 15) σ.length (opC c)) 250 4 ((gI (sI A1 (243 + 15) σ.length (opC c)) 250 4) + 1) = sI (sI A1 250 4 (gI A1 250 4 + 1)) 258 σ.length (opC c) := by
    rw [gI_ne (by omega)]
    unfold sI
    refine Prod.ext ?_ rfl
    funext a b
    simp only [up2]
    by_cases h1 : b = 4 ∧ a = 250
    · rw [if_pos h1, if_neg (by omega), if_pos h1]
    · rw [if_neg h1]
      by_cases h2 : b = σ.length ∧ a = 258
      · rw [if_pos h2, if_pos h2]
      · rw [if_neg h2, if_neg h2, if_neg h1]
  rw [e]
  have := k _ (yE_push (v := opC c) (yE_on h1 hpn) hsl')
  have hlen : (σ ++ [opC c]).length = σ.length + 1 := by simp
  unfold eLP at this
  rw [hlen] at this
  exact this
theorem yE_powL (hB : MB0 A0 T n) (hH : HM A0 T n lo ag ex K on bg m0 Sp) {p0 : Nat} (hs : stp 3 σ) : ∀ (k p fu : Nat) (acc : List SOp) (κ' π : List Int32) (A : Mem), 61 ≤ k + p → p0 < p → eSB T on m0 p op ins σ → 62 ≤ fu + p → EX A0 n lo ag ex p op κ' (σ ++ π) A → κ' ++ π.reverse = κ ++ enc acc → (∀ o ∈ π, ¬ 100 ≤ o ∧ 3 ≤ rk o) → κ'.length + (σ ++ π).length ≤ 2 * p + 1 →
    OKP (ePowL T n on Sp k p op acc) (eRB A0 T n lo ag ex K on bg op ins p0 κ σ 3) (eGX A0 n K) → eLP K on bg fu (σ ++ π) ins 0 0 A := by
  intro k
  induction k with
  | zero =>
    intro p fu acc κ' π A h61 hp0 hS hfu h he hπ hl kk
    have := (yE_f h).2.1
    have := hB.2.1
    omega
  | succ k ih =>
    intro p fu acc κ' π A h61 hp0 hS hfu h he hπ hl kk
    have hpn := (yE_f h).2.1
    have hn := hB.2.1
    unfold ePowL at kk
    by_cases hc : chr T n p = 94
    · rw [if_pos hc, OKP_bnd] at kk
      obtain ⟨fu, rfl⟩ : ∃ g, fu = g + 2 := ⟨fu - 2, by have := chr_lt0 hc (by decide); omega⟩
      obtain ⟨b1, b2, b3, b4, b5, b6, b7⟩ := hS
      have h7 : opC (94 : Int32) = 7 := by decide
      have hlen : κ'.length + π.length = κ.length + (enc acc).length := by
        have := congrArg List.length he
        simpa using this
      refine yE_opr (fu := fu + 1) hB h hc (by decide) (by rw [h7]; decide) (r := 3) (by rw [h7]; decide) hs hπ hl (fun A1 h1 => ?_)
      rw [h7] at h1 ⊢
      rw [he] at h1
      refine yE_opd hB h1 (Or.inl rfl) (by omega) (yE_part hB hH ⟨b1, b2, b3, b4, b5, by omega, MK_op b7 (by intro o ho; simp at ho; subst ho; decide)⟩ (by omega) h1 (by simp at hl ⊢; omega) (OKP_mono kk (fun p1 os k1 A2 fu2 hfu2 hp1 h2 hl2 => ?_) (fun q kb => kb)))
      refine ih p1 fu2 (acc ++ os ++ [(8, 0, 0)]) (κ ++ enc acc ++ enc os) [7] A2 (by omega) (by omega) ⟨b1, b2, b3, b4, b5, by omega, b7⟩ hfu2 h2 (by simp [enc, eO]) (by intro o ho; simp at ho; subst ho; decide) (by simp at hl2 ⊢; omega) k1
    · rw [if_neg hc] at kk
      exact kk κ' π A fu hfu hp0 h he hπ ⟨hc, fun h => by omega, fun h => by omega⟩ hl
theorem stp_mono {r r' : Nat} {σ : List Int32} (h : stp r σ) (hr : r ≤ r') : stp r' σ := fun o ho => by
  rcases h o ho with h1 | h1
  · exact Or.inl h1
  · exact Or.inr (by omega)
theorem stp_one {r : Nat} {σ : List Int32} {o : Int32} (h : rk o < r) : stp r (σ ++ [o]) := by
  intro o' ho
  rw [List.getLast?_append, List.getLast?_singleton] at ho
  simp at ho
  subst ho
  exact Or.inr h
theorem yE_pow {f : Int32} (hB : MB0 A0 T n) (hH : HM A0 T n lo ag ex K on bg m0 Sp) (hs : stp 3 σ) (hS : eSB T on m0 p op ins σ) (hf : f = 0 ∨ chr T n p ≠ 45) (hfu : 62 ≤ fu + p) (h : EX A0 n lo ag ex p op κ σ A) (hl : κ.length + σ.length ≤ 2 * p)
    (kk : OKP (ePow T n on Sp p op) (eRB A0 T n lo ag ex K on bg op ins p κ σ 3) (eGX A0 n K)) : eLP K on bg fu σ ins 1 f A := by
  have hpn := (yE_f h).2.1
  have hn := hB.2.1
  obtain ⟨fu, rfl⟩ : ∃ g, fu = g + 1 := ⟨fu - 1, by omega⟩
  obtain ⟨b1, b2, b3, b4, b5, b6, b7⟩ := hS
  unfold ePow at kk
  rw [OKP_bnd] at kk
  refine yE_opd hB h hf (by omega) (yE_part hB hH ⟨b1, b2, b3, b4, b5, b6, b7⟩ (by omega) h hl (OKP_mono kk (fun p1 os k1 A2 fu2 hfu2 hp1 h2 hl2 => ?_) (fun q kb => kb)))
  have := yE_powL (κ := κ) hB hH hs 60 p1 fu2 os (κ ++ enc os) [] A2 (by omega) hp1 ⟨b1, b2, b3, b4, b5, by omega, b7⟩ hfu2 (by simpa using h2) (by simp) (by intro o ho; simp at ho) (by simp at hl2 ⊢; omega) k1
  simpa using this
theorem yE_prL (hB : MB0 A0 T n) (hH : HM A0 T n lo ag ex K on bg m0 Sp) {p0 : Nat} (hs : stp 2 σ) : ∀ (k p fu : Nat) (acc : List SOp) (κ' π : List Int32) (A : Mem), 61 ≤ k + p → p0 < p → eSB T on m0 p op ins σ → 62 ≤ fu + p → EX A0 n lo ag ex p op κ' (σ ++ π) A → κ' ++ π.reverse = κ ++ enc acc → (∀ o ∈ π, ¬ 100 ≤ o ∧ 2 ≤ rk o) → chr T n p ≠ 94 → κ'.length + (σ ++ π).length ≤ 2 * p + 1 →
    OKP (ePrL T n on Sp k p op acc) (eRB A0 T n lo ag ex K on bg op ins p0 κ σ 2) (eGX A0 n K) → eLP K on bg fu (σ ++ π) ins 0 0 A := by
  intro k
  induction k with
  | zero =>
    intro p fu acc κ' π A h61 hp0 hS hfu h he hπ h94 hl kk
    have := (yE_f h).2.1
    have := hB.2.1
    omega
  | succ k ih =>
    intro p fu acc κ' π A h61 hp0 hS hfu h he hπ h94 hl kk
    have hpn := (yE_f h).2.1
    have hn := hB.2.1
    unfold ePrL at kk
    have hlen : κ'.length + π.length = κ.length + (enc acc).length := by
      have := congrArg List.length he
      simpa using this
    have go : ∀ (c o : Int32) (so : Nat), chr T n p = c → 0 < c → opC c = o → rk o = 2 → ¬ 100 ≤ o → ¬ o ≤ 0 → eO (so, 0, 0) = [o] → OKP (bnd (ePow T n on Sp (p + 1) op) fun p1 os => ePrL T n on Sp k p1 op (acc ++ os ++ [(so, 0, 0)])) (eRB A0 T n lo ag ex K on bg op ins p0 κ σ 2) (eGX A0 n K) → eLP K on bg fu (σ ++ π) ins 0 0 A := by
      intro c o so hc hc0 ho hr h100 ho0 hso kk2
      rw [OKP_bnd] at kk2
      have hpl := chr_lt0 hc (by rintro rfl; exact absurd hc0 (by decide))
      obtain ⟨fu, rfl⟩ : ∃ g, fu = g + 1 := ⟨fu - 1, by omega⟩
      obtain ⟨b1, b2, b3, b4, b5, b6, b7⟩ := hS
      refine yE_opr hB h hc hc0 (by rw [ho]; exact ho0) (r := 2) (by rw [ho]; exact hr) hs hπ hl (fun A1 h1 => ?_)
      rw [ho] at h1 ⊢
      rw [he] at h1
      refine yE_pow hB hH (stp_one (by omega)) ⟨b1, b2, b3, b4, b5, by omega, MK_op b7 (by intro o' ho'; simp at ho'; subst ho'; exact ⟨h100, by omega⟩)⟩ (Or.inl rfl) (by omega) h1 (by simp at hl ⊢; omega) (OKP_mono kk2 (fun p1 os k1 κ2 π2 A2 fu2 hfu2 hp1 h2 he2 hπ2 hno2 hl2 => ?_) (fun q kb => kb))
      have := ih p1 fu2 (acc ++ os ++ [(so, 0, 0)]) κ2 ([o] ++ π2) A2 (by omega) (by omega) ⟨b1, b2, b3, b4, b5, by omega, b7⟩ hfu2 (by simpa using h2) ?_ ?_ hno2.1 (by simpa using hl2) k1
      · simpa using this
      · rw [List.reverse_append, ← List.append_assoc, he2, enc_app, enc_app]
        simp [enc, hso]
      · intro o' ho'
        rcases List.mem_append.mp ho' with h9 | h9
        · simp at h9; subst h9; exact ⟨h100, by omega⟩
        · have := hπ2 o' h9
          exact ⟨this.1, by omega⟩
    by_cases hc : chr T n p = 42
    · rw [if_pos (Or.inl hc), if_pos hc] at kk
      exact go 42 5 6 hc (by decide) (by decide) (by decide) (by decide) (by decide) rfl kk
    · by_cases hc2 : chr T n p = 47
      · rw [if_pos (Or.inr hc2), if_neg hc] at kk
        exact go 47 6 7 hc2 (by decide) (by decide) (by decide) (by decide) (by decide) rfl kk
      · rw [if_neg (by rintro (h | h); exact hc h; exact hc2 h)] at kk
        exact kk κ' π A fu hfu hp0 h he hπ ⟨h94, fun _ => ⟨hc, hc2⟩, fun h => by omega⟩ hl
theorem yE_pr {f : Int32} (hB : MB0 A0 T n) (hH : HM A0 T n lo ag ex K on bg m0 Sp) (hs : stp 2 σ) (hS : eSB T on m0 p op ins σ) (hf : f = 0 ∨ chr T n p ≠ 45) (hfu : 62 ≤ fu + p) (h : EX A0 n lo ag ex p op κ σ A) (hl : κ.length + σ.length ≤ 2 * p)
    (kk : OKP (ePr T n on Sp p op) (eRB A0 T n lo ag ex K on bg op ins p κ σ 2) (eGX A0 n K)) : eLP K on bg fu σ ins 1 f A := by
  obtain ⟨b1, b2, b3, b4, b5, b6, b7⟩ := hS
  unfold ePr at kk
  rw [OKP_bnd] at kk
  refine yE_pow hB hH (stp_mono hs (by omega)) ⟨b1, b2, b3, b4, b5, b6, b7⟩ hf hfu h hl (OKP_mono kk (fun p1 os k1 κ2 π2 A2 fu2 hfu2 hp1 h2 he2 hπ2 hno2 hl2 => ?_) (fun q kb => kb))
  exact yE_prL hB hH hs 60 p1 fu2 os κ2 π2 A2 (by omega) hp1 ⟨b1, b2, b3, b4, b5, by omega, b7⟩ hfu2 h2 he2 (fun o ho => ⟨(hπ2 o ho).1, by have := (hπ2 o ho).2; omega⟩) hno2.1 hl2 k1
theorem yE_sumL (hB : MB0 A0 T n) (hH : HM A0 T n lo ag ex K on bg m0 Sp) {p0 : Nat} (hs : stp 1 σ) : ∀ (k p fu : Nat) (acc : List SOp) (κ' π : List Int32) (A : Mem), 61 ≤ k + p → p0 < p → eSB T on m0 p op ins σ → 62 ≤ fu + p → EX A0 n lo ag ex p op κ' (σ ++ π) A → κ' ++ π.reverse = κ ++ enc acc → (∀ o ∈ π, ¬ 100 ≤ o ∧ 1 ≤ rk o) → nop T n 2 p → κ'.length + (σ ++ π).length ≤ 2 * p + 1 →
    OKP (eSumL T n on Sp k p op acc) (eRB A0 T n lo ag ex K on bg op ins p0 κ σ 1) (eGX A0 n K) → eLP K on bg fu (σ ++ π) ins 0 0 A := by
  intro k
  induction k with
  | zero =>
    intro p fu acc κ' π A h61 hp0 hS hfu h he hπ h94 hl kk
    have := (yE_f h).2.1
    have := hB.2.1
    omega
  | succ k ih =>
    intro p fu acc κ' π A h61 hp0 hS hfu h he hπ h94 hl kk
    have hpn := (yE_f h).2.1
    have hn := hB.2.1
    unfold eSumL at kk
    have hlen : κ'.length + π.length = κ.length + (enc acc).length := by
      have := congrArg List.length he
      simpa using this
    have go : ∀ (c o : Int32) (so : Nat), chr T n p = c → 0 < c → opC c = o → rk o = 1 → ¬ 100 ≤ o → ¬ o ≤ 0 → eO (so, 0, 0) = [o] → OKP (bnd (ePr T n on Sp (p + 1) op) fun p1 os => eSumL T n on Sp k p1 op (acc ++ os ++ [(so, 0, 0)])) (eRB A0 T n lo ag ex K on bg op ins p0 κ σ 1) (eGX A0 n K) → eLP K on bg fu (σ ++ π) ins 0 0 A := by
      intro c o so hc hc0 ho hr h100 ho0 hso kk2
      rw [OKP_bnd] at kk2
      have hpl := chr_lt0 hc (by rintro rfl; exact absurd hc0 (by decide))
      obtain ⟨fu, rfl⟩ : ∃ g, fu = g + 1 := ⟨fu - 1, by omega⟩
      obtain ⟨b1, b2, b3, b4, b5, b6, b7⟩ := hS
      refine yE_opr hB h hc hc0 (by rw [ho]; exact ho0) (r := 1) (by rw [ho]; exact hr) hs hπ hl (fun A1 h1 => ?_)
      rw [ho] at h1 ⊢
      rw [he] at h1
      refine yE_pr hB hH (stp_one (by omega)) ⟨b1, b2, b3, b4, b5, by omega, MK_op b7 (by intro o' ho'; simp at ho'; subst ho'; exact ⟨h100, by omega⟩)⟩ (Or.inl rfl) (by omega) h1 (by simp at hl ⊢; omega) (OKP_mono kk2 (fun p1 os k1 κ2 π2 A2 fu2 hfu2 hp1 h2 he2 hπ2 hno2 hl2 => ?_) (fun q kb => kb))
      have := ih p1 fu2 (acc ++ os ++ [(so, 0, 0)]) κ2 ([o] ++ π2) A2 (by omega) (by omega) ⟨b1, b2, b3, b4, b5, by omega, b7⟩ hfu2 (by simpa using h2) ?_ ?_ hno2 (by simpa using hl2) k1
      · simpa using this
      · rw [List.reverse_append, ← List.append_assoc, he2, enc_app, enc_app]
        simp [enc, hso]
      · intro o' ho'
        rcases List.mem_append.mp ho' with h9 | h9
        · simp at h9; subst h9; exact ⟨h100, by omega⟩
        · have := hπ2 o' h9
          exact ⟨this.1, by omega⟩
    by_cases hc : chr T n p = 43
    · rw [if_pos (Or.inl hc), if_pos hc] at kk
      exact go 43 3 4 hc (by decide) (by decide) (by decide) (by decide) (by decide) rfl kk
    · by_cases hc2 : chr T n p = 45
      · rw [if_pos (Or.inr hc2), if_neg hc] at kk
        exact go 45 4 5 hc2 (by decide) (by decide) (by decide) (by decide) (by decide) rfl kk
      · rw [if_neg (by rintro (h | h); exact hc h; exact hc2 h)] at kk
        exact kk κ' π A fu hfu hp0 h he hπ ⟨h94.1, fun _ => h94.2.1 (Nat.le_refl 2), fun _ => ⟨hc, hc2⟩⟩ hl
theorem yE_sumB (hB : MB0 A0 T n) (hH : HM A0 T n lo ag ex K on bg m0 Sp) (hs : stp 1 σ) (hS : eSB T on m0 p op ins σ) (hfu : 62 ≤ fu + p) (h : EX A0 n lo ag ex p op κ σ A) (hl : κ.length + σ.length ≤ 2 * p)
    (kk : OKP (eSumB T n on Sp p op) (eRB A0 T n lo ag ex K on bg op ins p κ σ 1) (eGX A0 n K)) : eLP K on bg fu σ ins 1 1 A := by
  obtain ⟨b1, b2, b3, b4, b5, b6, b7⟩ := hS
  have hpn := (yE_f h).2.1
  have hn := hB.2.1
  unfold eSumB at kk
  by_cases hc : chr T n p = 45
  · rw [if_pos hc, OKP_bnd] at kk
    obtain ⟨hF, hp, h4, h5, h5', h7, hsl⟩ := yE_f h
    have hpl := chr_lt0 hc (by decide)
    have hW := (FrM_n hB hF).2.2.2
    obtain ⟨fu, rfl⟩ : ∃ g, fu = g + 1 := ⟨fu - 1, by omega⟩
    refine ⟨rfl, fun h => absurd h7 h, fun _ => yE_look hB h ⟨fun h => absurd h (by decide), fun _ => ⟨fun h => absurd h (by decide), fun _ => ?_⟩⟩⟩
    rw [lk_eq hB (by decide), gR_sI, hW.1 15 (by omega) (by omega), iN_cl (by omega)]
    refine ⟨fun h => absurd hc h, fun _ => ⟨rfl, iN_in (m := 64) (by omega) (by omega), ?_⟩⟩
    have h1 := yE_push (v := 8) (yE_on h hpl) (by omega)
    have hlen : (σ ++ [(8 : Int32)]).length = σ.length + 1 := by simp
    have := yE_pr (fu := fu) (ins := ins) (f := 0) hB hH (stp_one (r := 2) (by decide)) ⟨b1, b2, b3, b4, b5, by omega, MK_op b7 (by intro o' ho'; simp at ho'; subst ho'; decide)⟩ (Or.inl rfl) (by omega) h1 (by simp; omega) (OKP_mono kk (fun p1 os k1 κ2 π2 A2 fu2 hfu2 hp1 h2 he2 hπ2 hno2 hl2 => ?_) (fun q kb => kb))
    · unfold eLP at this
      rw [hlen] at this
      rw [iN_1]
      exact this
    · have := yE_sumL (κ := κ) hB hH hs 60 p1 fu2 (os ++ [(3, 0, 0)]) κ2 ([8] ++ π2) A2 (by omega) (by omega) ⟨b1, b2, b3, b4, b5, by omega, b7⟩ hfu2 (by simpa using h2) ?_ ?_ hno2 (by simpa using hl2) k1
      · simpa using this
      · rw [List.reverse_append, ← List.append_assoc, he2, enc_app]
        simp [enc, eO]
      · intro o' ho'
        rcases List.mem_append.mp ho' with h9 | h9
        · simp at h9; subst h9; decide
        · have := hπ2 o' h9
          exact ⟨this.1, by omega⟩
  · rw [if_neg hc, OKP_bnd] at kk
    refine yE_pr hB hH (stp_mono hs (by omega)) ⟨b1, b2, b3, b4, b5, b6, b7⟩ (Or.inr hc) hfu h hl (OKP_mono kk (fun p1 os k1 κ2 π2 A2 fu2 hfu2 hp1 h2 he2 hπ2 hno2 hl2 => ?_) (fun q kb => kb))
    exact yE_sumL hB hH hs 60 p1 fu2 os κ2 π2 A2 (by omega) hp1 ⟨b1, b2, b3, b4, b5, by omega, b7⟩ hfu2 h2 he2 (fun o ho => ⟨(hπ2 o ho).1, by have := (hπ2 o ho).2; omega⟩) hno2 hl2 k1
theorem yE_sum (hB : MB0 A0 T n) : ∀ d, HM A0 T n lo ag ex K on bg (8 - d) (eSum T n on d) := by
  intro d
  induction d with
  | zero => exact fun p op ins fu κ σ A h1 h2 => absurd h2 (by omega)
  | succ d ih => exact fun p op ins fu κ σ A h1 h2 h3 h4 h5 h6 h7 h8 h9 h10 h11 kk => yE_sumB hB ih h11 ⟨by omega, h2, h3, h4, h5, h6, h7⟩ h8 h9 h10 kk
end YT
