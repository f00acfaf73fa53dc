/-- an operation's outcome in the reference -/
def oKR (A0 : Mem) (vm : Nat → UInt64) (base : List UInt64) (cs : CSt) (e : Except Nat (List UInt64)) (p : Nat) (K : Int32 → Mem → Prop) : Prop :=
  (∀ l st' A', e = .ok l → dzL l base st' → EvM A0 vm st' cs 0 A' → K (iN p) A') ∧ (∀ f st' A' q, e = .error f → f ≠ 0 → EvM A0 vm st' cs f A' → K q A')
section MOP
variable {A0 A : Mem} {vm : Nat → UInt64} {st : List UInt64} {cs : CSt} {ft : Nat} {base s r : List UInt64} {K : Int32 → Mem → Prop} {p : Nat}
theorem mo_0 {v k : Nat} (hW : MW A0) (h : EvM A0 vm st cs 0 A) (hz : dzL s base st) (hl : st.length < 200) (hp : p + 3 ≤ 4000) (hv : gI A0 257 (p + 1) = iN v) (hk : gI A0 257 (p + 2) = iN k) (hk3 : k ≤ 3) (hb : v * 10 ^ (3 - k) < 1000000000)
    (kk : oKR A0 vm base cs (.ok (FP.ddiv (FP.i2d (th (iN v) k)) 4652007308841189376 :: s)) (p + 3) K) : wp_Mo_operate 250 0 (iN p) A K := by
  obtain ⟨-, -, e14, -, e30, -⟩ := MW_f hW h
  unfold wp_Mo_operate
  rw [e14, e30, iN_1]
  refine ⟨rfl, rfl, iN_in (m := 4000) (by omega) (by omega), fun q => absurd rfl q, fun _ => m_plain hW h (by omega) hv hk hk3 hb ⟨rfl, ?_, fun A37 e => ?_⟩⟩
  · rw [h.2.2.1]; exact iN_in (m := 200) hl (by omega)
  · rw [h.2.2.1, iN_cl (by omega), show gI (sD A 261 st.length (FP.ddiv (FP.i2d (th (iN v) k)) 4652007308841189376)) 250 25 = iN st.length from h.2.2.1, iN_1] at e
    rw [e, show iN p + 3 = iN (p + 3) from iN_add p 3]
    exact kk.1 _ _ _ rfl ⟨_, st, rfl, dz_rfl _, okd_thou _, hz⟩ (EvM_push h hl)
theorem mo_1 {i : Nat} {x : UInt64} (hW : MW A0) (h : EvM A0 vm st cs 0 A) (hz : dzL s base st) (hl : st.length < 200) (hp : p + 3 ≤ 4000) (hi : gI A0 257 (p + 1) = iN i) (hi2 : i < 26) (hd : dz x (vm i)) (ho : okd x)
    (kk : oKR A0 vm base cs (.ok (x :: s)) (p + 2) K) : wp_Mo_operate 250 1 (iN p) A K := by
  obtain ⟨-, -, e14, e29, e30, -⟩ := MW_f hW h
  unfold wp_Mo_operate
  rw [e14, e30, e29, iN_1, iN_cl (by omega), h.1.2.2.1 257 (by omega) (by omega) (by omega), hi, h.2.2.1, iN_cl (by omega), iN_cl (by omega), h.2.1.1]
  refine ⟨rfl, rfl, iN_in (m := 4000) (by omega) (by omega), fun _ => ⟨fun q => absurd rfl q, fun _ => ⟨rfl, iN_in (m := 26) hi2 (by omega), rfl, iN_in (m := 200) hl (by omega), fun A32 e => ?_⟩⟩, fun q => absurd q (by decide)⟩
  rw [e, show gI (sD A 261 st.length (vm i)) 250 25 = iN st.length from h.2.2.1, iN_1, show iN p + 2 = iN (p + 2) from iN_add p 2]
  exact kk.1 _ _ _ rfl ⟨_, st, rfl, hd, ho, hz⟩ (EvM_push h hl)
theorem mo_2 {m a b : Nat} {x y : UInt64} {el : Nat → UInt64 → UInt64 → EV} (hW : MW A0) (h : EvM A0 vm st cs 0 A) (hz : dzL (y :: x :: r) base st) (hp : p + 3 ≤ 4000) (hm : gI A0 257 (p + 1) = iN m) (hm2 : m < 3) (h0 : gI A0 269 m = iN a) (h1 : gI A0 270 m = iN b) (ha : a ≤ 6) (hb : b ≤ 6)
    (hel : match plM a b (FP.d2l x) (FP.d2l y) with | some i => ∃ w, el m x y = .ok w ∧ dz w (gD A0 266 (m * 36 + i)) ∧ okd w | none => el m x y = .error 5)
    (kk : oKR A0 vm base cs (psE r (el m x y)) (p + 2) K) : wp_Mo_operate 250 2 (iN p) A K := by
  obtain ⟨y', t, rfl, hy, hyo, x', t', rfl, hx, hxo, hr⟩ := hz
  obtain ⟨-, -, e14, -, e30, -, e35, -⟩ := MW_f hW h
  obtain ⟨q1, q2, q3⟩ := EvM_pop h
  have hl := h.2.2.2.1
  simp only [List.length_cons] at hl q1 q2 q3
  have q4 := EvM_pop q3
  unfold wp_Mo_operate
  rw [e14, iN_1, iN_cl (by omega), h.1.2.2.1 257 (by omega) (by omega) (by omega), hm, q1]
  rw [show gR (sI A 250 25 (iN (t'.length + 1))) 250 30 = 261 from e30, gI_eq, iN_s1 (by omega), Nat.add_sub_cancel, iN_cl (a := t'.length) (by omega), iN_cl (a := t'.length + 1) (by omega)]
  rw [show gD (sI A 250 25 (iN (t'.length + 1))) 261 (t'.length + 1) = y' from q2, show gD (sI A 250 25 (iN (t'.length + 1))) 261 t'.length = x' from q4.2.1]
  refine ⟨rfl, rfl, iN_in (m := 4000) (by omega) (by omega), fun _ => ⟨fun _ => ⟨fun q => absurd rfl q, fun _ => ⟨rfl, iN_in (m := 200) (by omega) (by omega), iN_in (m := 200) (by omega) (by omega), ?_⟩⟩, fun q => absurd q (by decide)⟩, fun q => absurd q (by decide)⟩
  refine m_placeOf hW q3 hm2 h0 h1 ha hb ?_
  rw [← dz_d2l hx, ← dz_d2l hy]
  rw [show iN p + 2 = iN (p + 2) from iN_add p 2]
  cases hpl : plM a b (FP.d2l x) (FP.d2l y) with
  | none =>
    rw [hpl] at hel
    have hel : el m x y = .error 5 := hel
    rw [hel] at kk
    exact ⟨fun _ => kk.2 5 _ _ _ rfl (by decide) (EvM_fail (f := 5) q3 (by omega)), fun q => absurd (by decide) q⟩
  | some i =>
    rw [hpl] at hel
    obtain ⟨w, hw, hwd, hwo⟩ := hel
    have hi := plM_lt ha hb hpl
    rw [hw] at kk
    show (_ → _) ∧ (_ → _)
    rw [show gR (sI A 250 25 (iN (t'.length + 1))) 250 35 = 266 from e35, show gR (sI A 250 25 (iN (t'.length + 1))) 250 30 = 261 from e30, gI_eq, iN_s1 (by omega), Nat.add_sub_cancel, iN_cl (by omega), iN_cl (by omega), show gD (sI A 250 25 (iN (t'.length + 1))) 266 = gD A0 266 from h.1.2.2.2.2 266 (by omega) (by omega) (by omega)]
    refine ⟨fun q => ?_, fun _ => ⟨rfl, iN_in (m := 108) (by omega) (by omega), rfl, iN_in (m := 200) (by omega) (by omega), fun A27 e => ?_⟩⟩
    · rw [show (0 : Int32) = iN 0 from rfl, iN_lt (by omega) (by omega)] at q; omega
    · rw [e]
      exact kk.1 _ _ _ rfl ⟨_, t', rfl, hwd, hwo, hr⟩ (EvM_set q3)
theorem mo_two {j : Nat} {x y : UInt64} (hW : MW A0) (h : EvM A0 vm st cs 0 A) (hz : dzL (y :: x :: r) base st) (hp : p + 3 ≤ 4000) (hj : 4 ≤ j) (hj2 : j ≤ 8)
    (kk : oKR A0 vm base cs (psE r (ftE 4 (if j = 4 then kpF (FP.dadd x y) else if j = 5 then kpF (FP.dsub x y) else if j = 6 then kpF (FP.dmul x y) else if j = 7 then dvF x y else pwF x y))) (p + 1) K) : wp_Mo_operate 250 (iN (j - 1)) (iN p) A K := by
  obtain ⟨y', t, rfl, hy, hyo, x', t', rfl, hx, hxo, hr⟩ := hz
  obtain ⟨-, -, e14, -, e30, -⟩ := MW_f hW h
  obtain ⟨q1, q2, q3⟩ := EvM_pop h
  have hl := h.2.2.2.1
  simp only [List.length_cons] at hl q1 q2 q3
  have q4 := EvM_pop q3
  unfold wp_Mo_operate
  rw [e14, iN_1, q1]
  rw [show gR (sI A 250 25 (iN (t'.length + 1))) 250 30 = 261 from e30, gI_eq, iN_s1 (by omega), Nat.add_sub_cancel, iN_cl (a := t'.length) (by omega), iN_cl (a := t'.length + 1) (by omega)]
  rw [show gD (sI A 250 25 (iN (t'.length + 1))) 261 (t'.length + 1) = y' from q2, show gD (sI A 250 25 (iN (t'.length + 1))) 261 t'.length = x' from q4.2.1]
  have n0 : ¬ iN (j - 1) = 0 := by rw [show (0 : Int32) = iN 0 from rfl, iN_eq (by omega) (by omega)]; omega
  have n1 : ¬ iN (j - 1) = 1 := by rw [show (1 : Int32) = iN 1 from rfl, iN_eq (by omega) (by omega)]; omega
  have n2 : ¬ iN (j - 1) = 2 := by rw [show (2 : Int32) = iN 2 from rfl, iN_eq (by omega) (by omega)]; omega
  have n8 : ¬ 8 ≤ iN (j - 1) := by rw [show (8 : Int32) = iN 8 from rfl, iN_le (by omega) (by omega)]; omega
  refine ⟨rfl, rfl, iN_in (m := 4000) (by omega) (by omega), fun _ => ⟨fun _ => ⟨fun _ => ⟨fun q => absurd q n8, fun _ => ⟨rfl, iN_in (m := 200) (by omega) (by omega), iN_in (m := 200) (by omega) (by omega), ?_⟩⟩, fun q => absurd q n2⟩, fun q => absurd q n1⟩, fun q => absurd q n0⟩
  refine m_two q3.2.1.2.1 hx hxo hy hyo hj hj2 ⟨fun v v' hv hd ho A17 e => ?_, fun hn A17 e => ?_⟩
  · rw [hv] at kk
    rw [e]
    exact kk.1 _ _ _ rfl ⟨_, t', rfl, hd, dz_okd (dz_sym hd) ho, hr⟩ (EvM_set q3)
  · rw [hn] at kk
    rw [e]
    exact kk.2 4 _ _ _ rfl (by decide) (EvM_set (EvM_fail (f := 4) q3 (by omega)))
theorem mo_one {j : Nat} {x : UInt64} (hW : MW A0) (h : EvM A0 vm st cs 0 A) (hz : dzL (x :: r) base st) (hp : p + 3 ≤ 4000) (hj : j = 3 ∨ j = 9 ∨ j = 10 ∨ j = 11) {f : UInt64 → UInt64} (hf : f = if j = 3 then FP.dneg else if j = 9 then szF else if j = 10 then flF else sgF) (hfo : okd (f x))
    (kk : oKR A0 vm base cs (.ok (f x :: r)) (p + 1) K) : wp_Mo_operate 250 (if j = 3 then 8 else iN j) (iN p) A K := by
  obtain ⟨x', t, rfl, hx, hxo, hr⟩ := hz
  obtain ⟨-, -, e14, -, e30, -⟩ := MW_f hW h
  obtain ⟨q1, q2, q3⟩ := EvM_pop h
  have hl := h.2.2.2.1
  simp only [List.length_cons] at hl
  unfold wp_Mo_operate
  rw [e14, e30, iN_1, q1, iN_cl (a := t.length) (by omega), q2]
  have fin : wp_Mo_one 250 (if j = 3 then 8 else iN j) x' A (fun (r11 : UInt64) (A10 : Mem) => K (iN (p + 1)) (sD A10 261 t.length r11)) :=
    m_one hj hx hxo hf (fun v' hd ho => kk.1 _ _ _ rfl ⟨_, t, rfl, hd, hfo, hr⟩ (EvM_set h))
  generalize hc : (if j = 3 then (8 : Int32) else iN j) = c at *
  have hc2 : c = 8 ∨ c = 9 ∨ c = 10 ∨ c = 11 := by
    rcases hj with e | e | e | e <;> subst e <;> rw [← hc]
    · exact Or.inl rfl
    · exact Or.inr (Or.inl rfl)
    · exact Or.inr (Or.inr (Or.inl rfl))
    · exact Or.inr (Or.inr (Or.inr rfl))
  have n0 : ¬ c = 0 ∧ ¬ c = 1 ∧ ¬ c = 2 ∧ 8 ≤ c ∧ ¬ 12 ≤ c := by
    rcases hc2 with e | e | e | e <;> rw [e] <;> decide
  exact ⟨rfl, rfl, iN_in (m := 4000) (by omega) (by omega), fun _ => ⟨fun _ => ⟨fun _ => ⟨fun _ => ⟨fun q => absurd q n0.2.2.2.2, fun _ => ⟨rfl, iN_in (m := 200) (by omega) (by omega), fin⟩⟩, fun q => absurd n0.2.2.2.1 q⟩, fun q => absurd q n0.2.2.1⟩, fun q => absurd q n0.2.1⟩, fun q => absurd q n0.1⟩
theorem mo_12 {f : Nat} {fd : Bool} (hW : MW A0) (h : EvM A0 vm st cs 0 A) (hz : dzL s base st) (hp : p + 3 ≤ 4000) (hf : gI A0 257 (p + 1) = iN f) (hf2 : f < 3) (hd : fd = decide (0 ≤ gI A0 268 f))
    (kk : oKR A0 vm base cs (if fd then .ok s else .error 3) (p + 2) K) : wp_Mo_operate 250 12 (iN p) A K := by
  obtain ⟨-, -, e14, -, -, -, -, e37, -⟩ := MW_f hW h
  unfold wp_Mo_operate
  rw [e14, e37, iN_1, iN_cl (by omega), h.1.2.2.1 257 (by omega) (by omega) (by omega), h.1.2.2.1 268 (by omega) (by omega) (by omega), hf, iN_cl (by omega), show iN p + 2 = iN (p + 2) from iN_add p 2]
  refine ⟨rfl, rfl, iN_in (m := 4000) (by omega) (by omega), fun _ => ⟨fun _ => ⟨fun _ => ⟨fun _ => ⟨fun _ => ⟨fun _ => ⟨rfl, iN_in (m := 3) hf2 (by omega), fun q => ?_, fun q => ?_⟩, fun q => absurd q (by decide)⟩, fun q => absurd (by decide) q⟩, fun q => absurd (by decide) q⟩, fun q => absurd q (by decide)⟩, fun q => absurd q (by decide)⟩, fun q => absurd q (by decide)⟩
  · rw [hd, if_pos (decide_eq_true q)] at kk
    exact kk.1 _ _ _ rfl hz h
  · rw [hd, if_neg (by simpa using q)] at kk
    exact kk.2 3 _ _ _ rfl (by decide) (EvM_fail (f := 3) h (by omega))
theorem mo_13 {f : Nat} (hW : MW A0) (h : EvM A0 vm st cs 0 A) (hp : p + 3 ≤ 4000) (hf : gI A0 257 (p + 1) = iN f) (hf2 : f < 3) (kk : wp_Mo_call 250 (iN f) (iN (p + 2)) A K) : wp_Mo_operate 250 13 (iN p) A K := by
  obtain ⟨-, -, e14, -, -, -, -, e37, -⟩ := MW_f hW h
  unfold wp_Mo_operate
  rw [e14, iN_1, iN_cl (by omega), h.1.2.2.1 257 (by omega) (by omega) (by omega), hf, show iN p + 2 = iN (p + 2) from iN_add p 2]
  exact ⟨rfl, rfl, iN_in (m := 4000) (by omega) (by omega), fun _ => ⟨fun _ => ⟨fun _ => ⟨fun _ => ⟨fun _ => ⟨fun q => absurd rfl q, fun _ => kk⟩, fun q => absurd (by decide) q⟩, fun q => absurd (by decide) q⟩, fun q => absurd q (by decide)⟩, fun q => absurd q (by decide)⟩, fun q => absurd q (by decide)⟩
end MOP
