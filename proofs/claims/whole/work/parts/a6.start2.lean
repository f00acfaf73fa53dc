section ST
variable {args : Array Value} {s : State} {A : Nat → Prop}
theorem OF_fun {o n d : String} {v w : Value} {t : Nat} {U : State} {H : Heap} (h : va_OF o n d v t A U H) (h' : va_OF o n d w t A U H) : v = w := by
  obtain ⟨cf, k, i, f, cell, h1, -, h3, -, h5, -⟩ := h
  obtain ⟨cf', k', i', f', cell', h1', -, h3', -, h5', -⟩ := h'
  cases h1.symm.trans h1'
  cases h3.symm.trans h3'
  exact Option.some.inj (h5.symm.trans h5')
theorem s_enum {C d : String} {nm : List String} (hw : enW C d nm) (hv : ∀ c ∈ nrL, c.before args s = true) (ht : ∀ w ∈ tables_1, w.before args s = true) (hA : ∀ a : Nat, a < s.heap.size → ¬ A a) : ∃ ad : Nat → Nat, ∀ i, i < nm.length → (eTm C d nm i).eval args s none [] s = some (.ref (ad i)) ∧ va_Z C (nm.getD i "") d (.ref (ad i)) A s s.heap ∧ va_O C (ad i) A s s.heap ∧ va_OF "java/lang/Enum" "ordinal" "I" (.int (nI i)) (ad i) A s s.heap := by
  have h0 : ∀ i : Nat, ∃ t : Nat, i < nm.length → (eTm C d nm i).eval args s none [] s = some (.ref t) ∧ va_Z C (nm.getD i "") d (.ref t) A s s.heap ∧ va_O C t A s s.heap ∧ va_OF "java/lang/Enum" "ordinal" "I" (.int (nI i)) t A s s.heap := by
    intro i
    by_cases hi : i < nm.length
    · obtain ⟨a, c, cell, k, q1, q2, q3, q4, q5, q6, -⟩ := Cond.exactly_spec (args := args) (first := s) (o := none) (s := s) (idx := []) (t := eTm C d nm i) (cls := C) (hv _ (hw.1 i hi))
      exact ⟨a, fun _ => ⟨q1, va_Zref (ht _ (hw.2.2.1 i hi)) (ht _ hw.2.2.2) q1 hA, ⟨cell, q3, q5, by rw [q6]; exact q2, hA a (Array.getElem?_eq_some_iff.mp q3).1⟩, vk_OFof q1 (va_eqt (hv _ (hw.2.1 i hi))) hA⟩⟩
    · exact ⟨0, fun h => absurd h hi⟩
  exact Classical.axiomOfChoice h0
theorem s_str (hv : ∀ c ∈ nrL, c.before args s = true) (hA : ∀ a : Nat, a < s.heap.size → ¬ A a) : ∃ ad : Nat → Nat × Nat, ∀ i, i < 44 → (sTm i).eval args s none [] s = some (.ref (ad i).1) ∧ va_O "java/lang/String" (ad i).1 A s s.heap ∧ va_OF "java/lang/String" "coder" "B" (.int 0) (ad i).1 A s s.heap ∧ va_OF "java/lang/String" "value" "[B" (.ref (ad i).2) (ad i).1 A s s.heap ∧ va_T .byte (ad i).2 (lenS.getD i 0) (fun j => .int ((bytS.getD i []).getD j 0)) A s s.heap := by
  have h0 : ∀ i : Nat, ∃ q : Nat × Nat, i < 44 → (sTm i).eval args s none [] s = some (.ref q.1) ∧ va_O "java/lang/String" q.1 A s s.heap ∧ va_OF "java/lang/String" "coder" "B" (.int 0) q.1 A s s.heap ∧ va_OF "java/lang/String" "value" "[B" (.ref q.2) q.1 A s s.heap ∧ va_T .byte q.2 (lenS.getD i 0) (fun j => .int ((bytS.getD i []).getD j 0)) A s s.heap := by
    intro i
    by_cases hi : i < 44
    · have hin := s_in hi
      have m1 : Cond.exactly (sTm i) "java/lang/String" ∈ sA i := List.mem_append_left _ (List.Mem.head _)
      have m2 : Cond.eq (.field (sTm i) "java/lang/String" "coder" "B") (.int 0) ∈ sA i := List.mem_append_left _ (List.Mem.tail _ (List.Mem.head _))
      have m3 : Cond.arrayOf (sVl i) .byte ∈ sA i := List.mem_append_left _ (List.Mem.tail _ (List.Mem.tail _ (List.Mem.head _)))
      have m4 : Cond.eq (.length (sVl i)) (.int (Int32.ofNat (lenS.getD i 0))) ∈ sA i := List.mem_append_left _ (List.Mem.tail _ (List.Mem.tail _ (List.Mem.tail _ (List.Mem.head _))))
      have m5 : ∀ j, j < lenS.getD i 0 → Cond.eq (.elem (sVl i) (.int (Int32.ofNat j))) (.int ((bytS.getD i []).getD j 0)) ∈ sA i := fun j hj => List.mem_append_right _ (List.mem_map.mpr ⟨j, List.mem_range.mpr hj, rfl⟩)
      obtain ⟨a, c, cA, kA, q1, q2, q3, q4, q5, q6, -⟩ := Cond.exactly_spec (args := args) (first := s) (o := none) (s := s) (idx := []) (t := sTm i) (cls := "java/lang/String") (hv _ (hin _ m1))
      obtain ⟨t, ht, hT⟩ := va_Tof (f := fun j => .int ((bytS.getD i []).getD j 0)) (A := A) (q_ln i hi) (hv _ (hin _ m3)) (va_eqt (hv _ (hin _ m4))) (fun j hj => va_eqt (hv _ (hin _ (m5 j hj)))) hA
      exact ⟨(a, t), fun _ => ⟨q1, ⟨cA, q3, q5, by rw [q6]; exact q2, hA a (Array.getElem?_eq_some_iff.mp q3).1⟩, vk_OFof q1 (va_eqt (hv _ (hin _ m2))) hA, vk_OFof q1 ht hA, hT⟩⟩
    · exact ⟨(0, 0), fun h => absurd h hi⟩
  exact Classical.axiomOfChoice h0
theorem s_tab {n : String} {l : List Int32} (hw : tbW n l) (hl : l.length < 2 ^ 31) (hv : ∀ c ∈ nrL, c.before args s = true) (ht : ∀ w ∈ tables_1, w.before args s = true) (hA : ∀ a : Nat, a < s.heap.size → ¬ A a) : ∃ t : Nat, va_Z "BasicMachine$1" n "[I" (.ref t) A s s.heap ∧ va_T .int t l.length (fun j => .int (l.getD j 0)) A s s.heap := by
  obtain ⟨t, h1, h2⟩ := va_Tof (f := fun j => .int (l.getD j 0)) (A := A) hl (hv _ hw.1) (va_eqt (hv _ hw.2.1)) (fun j hj => va_eqt (hv _ (hw.2.2.1 j hj))) hA
  exact ⟨t, va_Zref (ht _ hw.2.2.2) (ht _ q_i1) h1 hA, h2⟩
theorem s_ts {n d : String} {E : EV0} (h : (Cond.isRef (.static "java/lang/Throwable" n d)).before args s = true) (hl : (Cond.laysStatic "java/lang/Throwable" n d).before args s = true) (hA : ∀ a : Nat, a < s.heap.size → ¬ E.2.2.2 ≤ a) : tsF n d E s s.heap := by
  obtain ⟨c, k, i, f, a, cell, hc, hi, hst, ha, hcell, hs, hcls, hlt, hty⟩ := Cond.laysStatic_spec hl
  cases hv : (Term.static "java/lang/Throwable" n d).eval args s none [] s with
  | none => simp [Cond.before, Cond.holds, Cond.value, hv] at h
  | some w =>
    simp only [Cond.before, Cond.holds, Cond.value, hv] at h
    obtain ⟨hst', a', cell', ha', hcell', -, hslot⟩ := Term.static_spec hi hv
    cases ha.symm.trans ha'
    cases hcell.symm.trans hcell'
    refine ⟨c, k, i, f, a, cell, w, hc, hi, hst, ha, hcell, hs, hcls, hty, hslot, ?_, hA a (Array.getElem?_eq_some_iff.mp hcell).1⟩
    cases w with
    | null => rfl
    | ref t => rfl
    | _ => simp at h
theorem s_exA (hv : ∀ c ∈ nrL, c.before args s = true) : exA s := by
  intro i hi j hj hij a b ha hb
  have h := hv _ (q_cs i hi j hj hij)
  simp only [Cond.before, Cond.holds, Cond.value, ha, hb] at h
  simpa using h
theorem s_Kn (ht : ∀ w ∈ tables_1, w.before args s = true) (hg : ∀ w ∈ gtb, w.before args s = true) : ∃ D : va_G, ∀ (c : Nat) (q : vw_C), cls[c]? = some q → u_Kn s q.1 q.2.1 q.2.2 (D.1 c) (D.2 c) := by
  have h0 : ∀ c : Nat, ∃ p : ClassId × (Nat → Nat), ∀ q : vw_C, cls[c]? = some q → u_Kn s q.1 q.2.1 q.2.2 p.1 p.2 := by
    have key : ∀ c : Nat, CFk (c + 1) → Cond.instantiable (fC (c + 1)) (nf (c + 1)) ∈ tables_1 → ∃ p : ClassId × (Nat → Nat), ∀ q : vw_C, cls[c]? = some q → u_Kn s q.1 q.2.1 q.2.2 p.1 p.2 := by
      intro c hC hi
      obtain ⟨cC, iS, h⟩ := u_known hg hC.2.1 (ht _ hi)
      refine ⟨(cC, iS), fun q hq => ?_⟩
      have h1 : cls[c]? = some (fC (c + 1), fT (c + 1), nf (c + 1)) := hC.1
      cases h1.symm.trans hq
      exact h
    obtain ⟨i1, i2, i3, i4, i5, i6, i7, i8, i9⟩ := q_it
    intro c
    rcases c with _ | _ | _ | _ | _ | _ | _ | _ | _ | c
    · exact key 0 cf1 i1
    · exact key 1 cf2 i2
    · exact key 2 cf3 i3
    · exact key 3 cf4 i4
    · exact key 4 cf5 i5
    · exact key 5 cf6 i6
    · exact key 6 cf7 i7
    · exact key 7 cf8 i8
    · exact key 8 cf9 i9
    · exact ⟨(0, fun _ => 0), fun q hq => (by cases hq)⟩
  obtain ⟨p, hp⟩ := Classical.axiomOfChoice h0
  exact ⟨(fun c => (p c).1, fun c => (p c).2), hp⟩
theorem s_arr (ht : ∀ w ∈ tables_1, w.before args s = true) : ∃ f : Nat → ClassId, (∀ k, k ∈ [51, 52, 53, 54] → s.vm.findClass ("[" ++ (arT k).toString) = some (f k) ∧ ArrOfT s (f k) (arT k)) ∧ s.vm.findClass ("[" ++ (FieldType.object "BasicMachine$Line").toString) = some (f 55) ∧ ArrOfT s (f 55) (.object "BasicMachine$Line") ∧ va_RA s (f 55) (.object "BasicMachine$Line") ∧ va_AO "BasicMachine$Line" s := by
  have h0 : ∀ k : Nat, ∃ c : ClassId, k ∈ [51, 52, 53, 54] → s.vm.findClass ("[" ++ (arT k).toString) = some c ∧ ArrOfT s c (arT k) := by
    intro k
    by_cases hk : k ∈ [51, 52, 53, 54]
    · obtain ⟨c, kA, comp, h1, h2, h3⟩ := Cond.arrayClass_spec (ht _ (q_ar.1 k hk))
      refine ⟨c, fun _ => ⟨h1, fun n z => ⟨fun k h => (by cases h), kA, h2, comp, h3⟩⟩⟩
    · exact ⟨0, fun h => absurd h hk⟩
  obtain ⟨f, hf⟩ := Classical.axiomOfChoice h0
  have ho := ht _ q_ar.2
  have hAO : va_AO "BasicMachine$Line" s := va_AO.of ho
  obtain ⟨comp, c, k, h1, h2, h3, h4, h5⟩ := Cond.arrayOver_spec ho
  have hn : (55 : Nat) ∉ [51, 52, 53, 54] := by decide
  refine ⟨fun k => if k = 55 then c else f k, fun k hk => ?_, ?_, ?_, ?_, hAO⟩
  · have hne : k ≠ 55 := by
      rintro rfl
      exact hn hk
    show s.vm.findClass _ = some (if k = 55 then c else f k) ∧ ArrOfT s (if k = 55 then c else f k) _
    rw [if_neg hne]
    exact hf k hk
  · exact h5
  · exact fun n z => ⟨fun k h => (by cases h), k, h3, comp, h4⟩
  · exact ⟨k, comp, h3, h4, h1, h5⟩
end ST
