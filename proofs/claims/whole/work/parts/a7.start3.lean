def mkAd (B : Nat) (a1 a2 a3 a4 : Nat → Nat) (a5 : Nat → Nat × Nat) (t9 : Nat) : Nat → Nat := fun k => if k < 1000 then B + alo.idxOf k else if k < 1100 then a1 (k - 1000) else if k < 1200 then a2 (k - 1100) else if k < 1300 then a3 (k - 1200) else if k < 2000 then a4 (k - 1300) else if k < 2100 then (a5 (k - 2000)).1 else if k < 2999 then (a5 (k - 2100)).2 else t9
section MA
variable {B : Nat} {a1 a2 a3 a4 : Nat → Nat} {a5 : Nat → Nat × Nat} {t9 : Nat}
theorem mA1 {i : Nat} (h : i < 100) : mkAd B a1 a2 a3 a4 a5 t9 (1000 + i) = a1 i := by
  unfold mkAd
  rw [if_neg (by omega), if_pos (by omega), show 1000 + i - 1000 = i by omega]
theorem mA2 {i : Nat} (h : i < 100) : mkAd B a1 a2 a3 a4 a5 t9 (1100 + i) = a2 i := by
  unfold mkAd
  rw [if_neg (by omega), if_neg (by omega), if_pos (by omega), show 1100 + i - 1100 = i by omega]
theorem mA3 {i : Nat} (h : i < 100) : mkAd B a1 a2 a3 a4 a5 t9 (1200 + i) = a3 i := by
  unfold mkAd
  rw [if_neg (by omega), if_neg (by omega), if_neg (by omega), if_pos (by omega), show 1200 + i - 1200 = i by omega]
theorem mA4 {i : Nat} (h : i < 100) : mkAd B a1 a2 a3 a4 a5 t9 (1300 + i) = a4 i := by
  unfold mkAd
  rw [if_neg (by omega), if_neg (by omega), if_neg (by omega), if_neg (by omega), if_pos (by omega), show 1300 + i - 1300 = i by omega]
theorem mA5 {i : Nat} (h : i < 100) : mkAd B a1 a2 a3 a4 a5 t9 (2000 + i) = (a5 i).1 := by
  unfold mkAd
  rw [if_neg (by omega), if_neg (by omega), if_neg (by omega), if_neg (by omega), if_neg (by omega), if_pos (by omega), show 2000 + i - 2000 = i by omega]
theorem mA6 {i : Nat} (h : i < 100) : mkAd B a1 a2 a3 a4 a5 t9 (2100 + i) = (a5 i).2 := by
  unfold mkAd
  rw [if_neg (by omega), if_neg (by omega), if_neg (by omega), if_neg (by omega), if_neg (by omega), if_neg (by omega), if_pos (by omega), show 2100 + i - 2100 = i by omega]
theorem mA9 : mkAd B a1 a2 a3 a4 a5 t9 2999 = t9 := rfl
end MA
theorem alo_ix : ∀ i, i < 180 → alo.idxOf (alo.getD i 0) = i ∧ alo.getD i 0 < 1000 := by decide +kernel
theorem nI_inj : ∀ i, i < 17 → ∀ j, j < 17 → Value.int (nI i) = Value.int (nI j) → i = j := by
  intro i hi j hj h
  have h1 : nI i = nI j := by injection h
  exact (by decide +kernel : ∀ i, i < 17 → ∀ j, j < 17 → nI i = nI j → i = j) i hi j hj h1
theorem en_len : en1000.length = 17 ∧ en1100.length = 9 ∧ en1200.length = 7 := ⟨rfl, rfl, rfl⟩
theorem neq2 {args : Array Value} {s : State} {t u : Term} {a b : Nat} (h : (Cond.not (.eq t u)).before args s = true ∨ (Cond.not (.eq u t)).before args s = true) (ht : t.eval args s none [] s = some (.ref a)) (hu : u.eval args s none [] s = some (.ref b)) : a ≠ b := by
  rcases h with h | h
  · exact va_neR h ht hu
  · exact (va_neR h hu ht).symm
set_option maxHeartbeats 1000000 in
theorem s_EF {args : Array Value} {s : State} (hv : ∀ c ∈ nrL, c.before args s = true) (ht : ∀ w ∈ tables_1, w.before args s = true) (hg : ∀ w ∈ gtb, w.before args s = true) : ∃ E : EVT, EF E s ∧ ArE E s ∧ OffE E ∧ eB E = s.heap.size := by
  have hA : ∀ a : Nat, a < s.heap.size → ¬ s.heap.size ≤ a := fun a h => by omega
  obtain ⟨a1, h1⟩ := s_enum (A := fun q => s.heap.size ≤ q) q_en1 hv ht hA
  obtain ⟨a2, h2⟩ := s_enum (A := fun q => s.heap.size ≤ q) q_en2 hv ht hA
  obtain ⟨a3, h3⟩ := s_enum (A := fun q => s.heap.size ≤ q) q_en3 hv ht hA
  obtain ⟨a5, h5⟩ := s_str (A := fun q => s.heap.size ≤ q) hv hA
  obtain ⟨t0, g0⟩ := s_tab (A := fun q => s.heap.size ≤ q) q_tb1 (by decide) hv ht hA
  obtain ⟨t1, g1⟩ := s_tab (A := fun q => s.heap.size ≤ q) q_tb2 (by decide) hv ht hA
  obtain ⟨t2, g2⟩ := s_tab (A := fun q => s.heap.size ≤ q) q_tb3 (by decide) hv ht hA
  obtain ⟨n1, n2, n3⟩ := en_len
  rw [n1] at h1
  rw [n2] at h2
  rw [n3] at h3
  obtain ⟨t3, g3, g4⟩ : ∃ t : Nat, va_Z "BasicMachine" "STATEMENTS" "[LBasicMachine$Statement;" (.ref t) (fun q => s.heap.size ≤ q) s s.heap ∧ va_T (.object "BasicMachine$Statement") t 17 (fun j => .ref (a1 j)) (fun q => s.heap.size ≤ q) s s.heap := by
    obtain ⟨t, e1, e2⟩ := va_Tof (f := fun j => .ref (a1 j)) (A := fun q => s.heap.size ≤ q) (N := 17) (by decide) (hv _ q_sa.1) (va_eqt (hv _ q_sa.2.1)) (fun j hj => va_eqv (hv _ (q_sa.2.2.1 j hj)) (h1 j hj).1) hA
    exact ⟨t, va_Zref (ht _ q_sa.2.2.2.1) (ht _ q_sa.2.2.2.2) e1 hA, e2⟩
  have z1 : va_Z "java/lang/String" "COMPACT_STRINGS" "Z" (.int 1) (fun q => s.heap.size ≤ q) s s.heap := va_Zof (ht _ q_mi.2.1) (ht _ q_mi.2.2.2.1) (va_eqi (hv _ q_mi.1.1)) hA
  have z2 : va_Zq "jdk/internal/util/Preconditions" "SIOOBE_FORMATTER" "Ljava/util/function/BiFunction;" (fun q => s.heap.size ≤ q) s s.heap := va_Zqof (ht _ q_mi.2.2.1) (ht _ q_mi.2.2.2.2) (hv _ q_mi.1.2) hA
  obtain ⟨t9, z3⟩ : ∃ t9 : Nat, va_Z "jdk/internal/util/Preconditions" "SIOOBE_FORMATTER" "Ljava/util/function/BiFunction;" .null (fun q => s.heap.size ≤ q) s s.heap ∨ va_Z "jdk/internal/util/Preconditions" "SIOOBE_FORMATTER" "Ljava/util/function/BiFunction;" (.ref t9) (fun q => s.heap.size ≤ q) s s.heap := by
    rcases z2 with h | ⟨t, h⟩
    · exact ⟨0, Or.inl h⟩
    · exact ⟨t, Or.inr h⟩
  obtain ⟨D, hD⟩ := s_Kn ht hg
  obtain ⟨f, f1, f2, f3, f4, f5⟩ := s_arr ht
  let a4 : Nat → Nat := fun i => if i = 0 then t0 else if i = 1 then t1 else if i = 2 then t2 else t3
  let E : EVT := (mkAd s.heap.size a1 a2 a3 a4 a5 t9, D, f, s.heap.size)
  have m4 : E.1 1300 = t0 ∧ E.1 1301 = t1 ∧ E.1 1302 = t2 ∧ E.1 1303 = t3 := ⟨rfl, rfl, rfl, rfl⟩
  have m1 : ∀ i, i < 17 → E.1 (1000 + i) = a1 i := fun i hi => mA1 (by omega)
  have m2 : ∀ i, i < 9 → E.1 (1100 + i) = a2 i := fun i hi => mA2 (by omega)
  have m3 : ∀ i, i < 7 → E.1 (1200 + i) = a3 i := fun i hi => mA3 (by omega)
  have m5 : ∀ i, i < 44 → E.1 (2000 + i) = (a5 i).1 := fun i hi => mA5 (by omega)
  have m6 : ∀ i, i < 44 → E.1 (2100 + i) = (a5 i).2 := fun i hi => mA6 (by omega)
  have hOff : OffE E := by
    intro i k hk
    have hi : i < 180 := by rw [← alo_len]; exact (List.getElem?_eq_some_iff.mp hk).1
    have he : alo.getD i 0 = k := by rw [List.getD_eq_getElem?_getD, hk]; rfl
    obtain ⟨q1, q2⟩ := alo_ix i hi
    rw [he] at q1 q2
    show mkAd _ _ _ _ _ _ _ k = s.heap.size + i
    unfold mkAd
    rw [if_pos q2, q1]
  have ord : ∀ k : Nat, enk k → ∃ i, i < 17 ∧ va_OF "java/lang/Enum" "ordinal" "I" (.int (nI i)) (ead E k) (fun q => s.heap.size ≤ q) s s.heap ∧ ((k = 1000 + i ∧ i < 17) ∨ (k = 1100 + i ∧ i < 9) ∨ (k = 1200 + i ∧ i < 7)) := by
    rintro k (⟨p1, p2⟩ | ⟨p1, p2⟩ | ⟨p1, p2⟩)
    · have hi : k - 1000 < 17 := by omega
      have ek : 1000 + (k - 1000) = k := by omega
      have em := m1 _ hi
      rw [ek] at em
      refine ⟨k - 1000, hi, ?_, Or.inl ⟨by omega, hi⟩⟩
      rw [show ead E k = a1 (k - 1000) from em]
      exact (h1 _ hi).2.2.2
    · have hi : k - 1100 < 9 := by omega
      have ek : 1100 + (k - 1100) = k := by omega
      have em := m2 _ hi
      rw [ek] at em
      refine ⟨k - 1100, by omega, ?_, Or.inr (Or.inl ⟨by omega, hi⟩)⟩
      rw [show ead E k = a2 (k - 1100) from em]
      exact (h2 _ hi).2.2.2
    · have hi : k - 1200 < 7 := by omega
      have ek : 1200 + (k - 1200) = k := by omega
      have em := m3 _ hi
      rw [ek] at em
      refine ⟨k - 1200, by omega, ?_, Or.inr (Or.inr ⟨by omega, hi⟩)⟩
      rw [show ead E k = a3 (k - 1200) from em]
      exact (h3 _ hi).2.2.2
  have hen : ∀ i j, enk i → enk j → ead E i = ead E j → i = j := by
    intro i j hi hj he
    obtain ⟨x, x1, x2, x3⟩ := ord i hi
    obtain ⟨y, y1, y2, y3⟩ := ord j hj
    rw [he] at x2
    have hxy := nI_inj x x1 y y1 (OF_fun x2 y2)
    subst hxy
    have e12 : x < 9 → a1 x ≠ a2 x := fun h => neq2 ((q_n12 x h).imp (hv _) (hv _)) (h1 x (by omega)).1 (h2 x h).1
    have e13 : x < 7 → a1 x ≠ a3 x := fun h => neq2 ((q_n13 x h).imp (hv _) (hv _)) (h1 x (by omega)).1 (h3 x h).1
    have e23 : x < 7 → a2 x ≠ a3 x := fun h => neq2 ((q_n23 x h).imp (hv _) (hv _)) (h2 x (by omega)).1 (h3 x h).1
    have he' : E.1 i = E.1 j := he
    rcases x3 with ⟨rfl, p⟩ | ⟨rfl, p⟩ | ⟨rfl, p⟩ <;> rcases y3 with ⟨rfl, r⟩ | ⟨rfl, r⟩ | ⟨rfl, r⟩
    · rfl
    · rw [m1 x p, m2 x r] at he'; exact absurd he' (e12 r)
    · rw [m1 x p, m3 x r] at he'; exact absurd he' (e13 r)
    · rw [m2 x p, m1 x r] at he'; exact absurd he'.symm (e12 p)
    · rfl
    · rw [m2 x p, m3 x r] at he'; exact absurd he' (e23 r)
    · rw [m3 x p, m1 x r] at he'; exact absurd he'.symm (e13 p)
    · rw [m3 x p, m2 x r] at he'; exact absurd he'.symm (e23 p)
    · rfl
  have hSF : SF E s s.heap := by
    refine ⟨fun i hi => ?_, fun i hi => ?_, fun i hi => ?_, ?_, ?_, ?_, fun i hi => ?_, fun i hi => ?_, ?_, z1, z3⟩
    · rw [n1] at hi
      rw [m1 i hi]
      exact (h1 i hi).2
    · rw [n2] at hi
      rw [m2 i hi]
      exact (h2 i hi).2
    · rw [n3] at hi
      rw [m3 i hi]
      exact (h3 i hi).2
    · unfold tbF
      rw [m4.1]
      exact g0
    · unfold tbF
      rw [m4.2.1]
      exact g1
    · unfold tbF
      rw [m4.2.2.1]
      exact g2
    · rw [m5 i hi, m6 i hi]
      exact (h5 i hi).2
    · obtain ⟨w1, w2⟩ := q_wd i hi
      rw [m1 i hi, m5 _ w2]
      exact vk_OFof (h1 i hi).1 (va_eqv (hv _ w1) (h5 _ w2).1) hA
    · unfold saF
      rw [m4.2.2.2]
      refine ⟨g3, ?_⟩
      obtain ⟨cell, c1, c2, c3, c4, c5, c6, c7⟩ := g4
      exact ⟨cell, c1, c2, c3, c4, c5, fun j hj => (c6 j hj).trans (congrArg (fun z => some (Value.ref z)) (m1 j hj).symm), c7⟩
  have hTH : thF E s s.heap := ⟨s_ts (hv _ q_th.1.1) (ht _ q_th.2.1) hA, s_ts (hv _ q_th.1.2) (ht _ q_th.2.2) hA, s_exA hv, fun X hX args' => va_tabs rfl rfl (ht _ (q_dc X hX))⟩
  have hK : va_K (eD E) cls (tysOf E) s := by
    refine ⟨hD, fun k q hk => ?_⟩
    have k1 := f1 51 (by decide)
    have k2 := f1 52 (by decide)
    have k3 := f1 53 (by decide)
    have k4 := f1 54 (by decide)
    rcases k with _ | _ | _ | _ | _ | k
    · cases hk; exact ⟨k1.2, k1.1⟩
    · cases hk; exact ⟨k2.2, k2.1⟩
    · cases hk; exact ⟨k3.2, k3.1⟩
    · cases hk; exact ⟨k4.2, k4.1⟩
    · cases hk; exact ⟨f3, f4⟩
    · cases hk
  refine ⟨E, ⟨EO_of_off hOff hen, hK, Nat.le_refl _, ⟨hSF, hTH⟩, fun w hw => ?_, fun q hq => ?_⟩, ⟨fun k hk => (f1 k hk).1, f2, f5⟩, hOff, rfl⟩
  · exact va_tabs (nest_tab hw) rfl (ht _ (List.mem_filter.mp hw).1)
  · obtain ⟨i, hi⟩ := List.getElem?_of_mem hq
    have hi44 : i < 44 := by rw [← q_sl]; exact (List.getElem?_eq_some_iff.mp hi).1
    have he : strL.getD i ("", 0, "", 0) = q := by rw [List.getD_eq_getElem?_getD, hi]; rfl
    have r1 := ht _ (q_sr i hi44)
    have r2 := q_ix i hi44
    have r3 := (h5 i hi44).1
    unfold sTm at r3
    rw [he] at r1 r2 r3
    rw [r2, m5 i hi44]
    exact vk_R.of r1 r3
