/-! constructors: the cells come one behind another, from the first cell that is ours on; a cell that has not come yet is all zero in the memory -/
def alo : List Nat := [1, 2, 3, 100, 130, 160, 190, 220, 4, 5, 6, 7, 101, 131, 161, 191, 221, 102, 132, 162, 192, 222, 103, 133, 163, 193, 223, 104, 134, 164, 194, 224, 105, 135, 165, 195, 225, 106, 136, 166, 196, 226, 107, 137, 167, 197, 227, 108, 138, 168, 198, 228, 109, 139, 169, 199, 229, 110, 140, 170, 200, 230, 111, 141, 171, 201, 231, 112, 142, 172, 202, 232, 113, 143, 173, 203, 233, 114, 144, 174, 204, 234, 115, 145, 175, 205, 235, 116, 146, 176, 206, 236, 117, 147, 177, 207, 237, 118, 148, 178, 208, 238, 119, 149, 179, 209, 239, 120, 150, 180, 210, 240, 121, 151, 181, 211, 241, 122, 152, 182, 212, 242, 123, 153, 183, 213, 243, 124, 154, 184, 214, 244, 8, 9, 12, 16, 13, 17, 14, 18, 15, 19, 10, 11, 20, 21, 22, 23, 24, 25, 26, 27, 250, 251, 252, 253, 254, 255, 256, 257, 258, 259, 260, 261, 262, 263, 264, 265, 266, 267, 268, 269, 270, 271, 272, 273, 274, 275, 28, 29]
theorem alo_nd : alo.Nodup := by decide +kernel
theorem alo_len : alo.length = 180 := by decide +kernel
theorem alo_le {n : Nat} (h : n ≤ 180) : n ≤ alo.length := by rw [alo_len]; exact h
def OffE (E : EVT) : Prop := ∀ i k, alo[i]? = some k → ead E k = eB E + i
def arN : Nat → String
  | 51 => "[" ++ (FieldType.int).toString
  | 52 => "[" ++ (FieldType.char).toString
  | 53 => "[" ++ (FieldType.double).toString
  | _ => "[" ++ (FieldType.long).toString
def arT : Nat → FieldType
  | 51 => .int
  | 52 => .char
  | 53 => .double
  | _ => .long
def ArE (E : EVT) (U : State) : Prop := (∀ k, k ∈ [51, 52, 53, 54] → U.vm.findClass ("[" ++ (arT k).toString) = some (ecA E k)) ∧ U.vm.findClass ("[" ++ (FieldType.object "BasicMachine$Line").toString) = some (ecA E 55) ∧ va_AO "BasicMachine$Line" U
theorem ArE_mv {E : EVT} {u U : State} (hvm : u.vm.Alike U.vm) (h : ArE E u) : ArE E U := ⟨fun k hk => by rw [hvm.findClass]; exact h.1 k hk, by rw [hvm.findClass]; exact h.2.1, h.2.2.moved hvm⟩
def wsN (E : EVT) (n : Nat) (A : Mem) : va_W := (alo.take n).map (fun k => (ead E k, ent E A k))
def zero (A : Mem) (k : Nat) : Prop := ∀ j, gI A k j = 0 ∧ gD A k j = 0 ∧ gR A k j = 0 ∧ gL A k j = 0
def RelN (E : EVT) (n : Nat) (A : Mem) (H : Heap) : Prop := va_P (eD E) cls (wsN E n A) H ∧ ∀ i k, n ≤ i → alo[i]? = some k → zero A k
theorem wsN_get (E : EVT) (A : Mem) (n i : Nat) : (wsN E n A)[i]? = if i < n then (alo[i]?).map (fun k => (ead E k, ent E A k)) else none := by
  unfold wsN
  rw [List.getElem?_map, List.getElem?_take]
  split <;> rfl
theorem wsN_at (E : EVT) (A : Mem) {n i x : Nat} (hi : i < n) (hx : alo[i]? = some x) : (wsN E n A)[i]? = some (ead E x, ent E A x) := by rw [wsN_get, if_pos hi, hx]; rfl
theorem wsN_D {E : EVT} (h : OffE E) (A : Mem) (n : Nat) : va_D (eA E) (wsN E n A) := by
  refine ⟨fun i j p q hi hj hpq => ?_, fun k q hk => ?_⟩
  · rw [wsN_get] at hi hj
    split at hi
    · split at hj
      · obtain ⟨a, ha, rfl⟩ := Option.map_eq_some_iff.mp hi
        obtain ⟨b, hb, rfl⟩ := Option.map_eq_some_iff.mp hj
        have e : ead E a = ead E b := hpq
        rw [h i a ha, h j b hb] at e
        omega
      · cases hj
    · cases hi
  · rw [wsN_get] at hk
    split at hk
    · obtain ⟨a, ha, rfl⟩ := Option.map_eq_some_iff.mp hk
      show eB E ≤ ead E a
      rw [h k a ha]
      omega
    · cases hk
theorem alo_inj {i j x : Nat} (hi : alo[i]? = some x) (hj : alo[j]? = some x) : i = j := (List.getElem?_inj (List.getElem?_eq_some_iff.mp hi).1 alo_nd).mp (hi.trans hj.symm)
theorem wsN_set (E : EVT) {A A' : Mem} {n i x : Nat} (hi : i < n) (hx : alo[i]? = some x) (he : ∀ j, j ≠ x → ent E A' j = ent E A j) {e : va_E} (hk : ent E A' x = e) : (wsN E n A).set i (ead E x, e) = wsN E n A' := by
  apply List.ext_getElem?
  intro j
  by_cases hj : j = i
  · subst hj
    have hl : j < (wsN E n A).length := (List.getElem?_eq_some_iff.mp (wsN_at E A hi hx)).1
    rw [List.getElem?_set_self hl, wsN_at E A' hi hx, hk]
  · rw [List.getElem?_set_ne (Ne.symm hj), wsN_get, wsN_get]
    split
    · cases ha : alo[j]? with
      | none => rfl
      | some a =>
        have : a ≠ x := by
          rintro rfl
          exact hj (alo_inj ha hx)
        simp [he a this]
    · rfl
theorem zero_ne {A A' : Mem} {n i x : Nat} (hi : i < n) (hx : alo[i]? = some x) (hz : ∀ i k, n ≤ i → alo[i]? = some k → zero A k) (h : ∀ k j, k ≠ x → gI A' k j = gI A k j ∧ gD A' k j = gD A k j ∧ gR A' k j = gR A k j ∧ gL A' k j = gL A k j) : ∀ i k, n ≤ i → alo[i]? = some k → zero A' k := by
  intro i' k hi' hk j
  have hkx : k ≠ x := by
    rintro rfl
    have := alo_inj hk hx
    omega
  obtain ⟨a, b, c, d⟩ := h k j hkx
  obtain ⟨a', b', c', d'⟩ := hz i' k hi' hk j
  exact ⟨a.trans a', b.trans b', c.trans c', d.trans d'⟩
theorem zI {A : Mem} {x i : Nat} {v : Int32} : ∀ k j, k ≠ x → gI (sI A x i v) k j = gI A k j ∧ gD (sI A x i v) k j = gD A k j ∧ gR (sI A x i v) k j = gR A k j ∧ gL (sI A x i v) k j = gL A k j := fun k j h => ⟨by simp [gI, sI, up2, h], rfl, rfl, rfl⟩
theorem zR {A : Mem} {x i : Nat} {v : Nat} : ∀ k j, k ≠ x → gI (sR A x i v) k j = gI A k j ∧ gD (sR A x i v) k j = gD A k j ∧ gR (sR A x i v) k j = gR A k j ∧ gL (sR A x i v) k j = gL A k j := fun k j h => ⟨rfl, rfl, by simp [gR, sR, up2, h], rfl⟩
def GN (X : CXT) (E : EVT) (n0 cl sl : Nat) (A : Mem) (pc : Nat) (lv : List (Nat × Value)) (st : List Value) : Prop :=
  ∀ (H : Heap) (locs : List Loc) (ls : Array Slot), RelN E (n0 + cl) A H → va_S (eA E) (xs X).heap H locs → lv_has ls (xnL X) lv → W (xp X) (xl X) (xe X) (xR X) (xs X) (xm X) (xa X) (xb X) (xmeth X) (xc X) H locs cl sl (xQ X) (F0 (xm X) pc ls st)
def Gc (X : CXT) (E : EVT) (own : String) (cc : ByteArray) (n0 : Nat) : Prop := Gd X E own cc ∧ ArE E (xs X) ∧ OffE E ∧ (xs X).heap.size = eB E + n0
section CN
variable {X : CXT} {E : EVT} {own : String} {cc : ByteArray} {n0 cl sl : Nat} {A : Mem} {pc : Nat} {lv : List (Nat × Value)} {rest : List Value}
/-- the heap's size, exactly: no more than was made, no less than what stands there -/
theorem n_size (hX : Gc X E own cc n0) {H : Heap} {locs : List Loc} {T : State} (hT : T.heap = H) (h1 : RelN E (n0 + cl) A H) (h2 : va_S (eA E) (xs X).heap H locs) (hn : n0 + cl ≤ alo.length)
    (St : Stand (xp X) (xl X) (xe X) (xR X) (xs X) (xm X) (xa X) (xb X) (xmeth X) (xc X) T locs cl sl) : H.size = eB E + (n0 + cl) := by
  have hu : T.heap.size ≤ (xs X).heap.size + cl := St.same.2.2.1
  rw [hT, hX.2.2.2] at hu
  have hl : eB E + (n0 + cl) ≤ H.size := by
    by_cases h0 : n0 + cl = 0
    · rw [h0]
      have := h2.1
      rw [hX.2.2.2] at this
      omega
    · have hlt : n0 + cl - 1 < alo.length := by omega
      have hk : alo[n0 + cl - 1]? = some alo[n0 + cl - 1] := List.getElem?_eq_getElem hlt
      have := (h1.1 _ _ (wsN_at E A (n := n0 + cl) (by omega) hk)).lt
      have e : ead E alo[n0 + cl - 1] < H.size := this
      rw [hX.2.2.1 _ _ hk] at e
      omega
  omega
theorem GN_of (hX : Gc X E own cc n0) (hn : n0 + cl ≤ alo.length) {st : List Value} (h : ∀ (H : Heap) (locs : List Loc) (ls : Array Slot), RelN E (n0 + cl) A H → va_S (eA E) (xs X).heap H locs → lv_has ls (xnL X) lv → H.size = eB E + (n0 + cl) → W (xp X) (xl X) (xe X) (xR X) (xs X) (xm X) (xa X) (xb X) (xmeth X) (xc X) H locs cl sl (xQ X) (F0 (xm X) pc ls st)) : GN X E n0 cl sl A pc lv st :=
  fun H locs ls h1 h2 h3 T hT St => h H locs ls h1 h2 h3 (n_size hX hT h1 h2 hn St) T hT St
theorem n_aload_n (hX : Gc X E own cc n0) {k : Fin 4} {i x : Nat} (hd : decode cc pc = .ok (.aload_n k, 1)) (hi : (k : Nat) = i) (j : Nat) (hj : lv[j]? = some (i, cr E x)) (kk : GN X E n0 cl sl A (pc + 1) lv (cr E x :: rest)) : GN X E n0 cl sl A pc lv rest := by
  intro H locs ls h1 h2 h3
  have hl := lv_at h3 j hj
  have k2 := kk H locs ls h1 h2 h3
  by_cases hx : x = 0
  · subst hx
    exact lv_aload_nN hX.1.1 hX.1.2.1 hd hi hl k2
  · rw [cr_pos hx] at hl k2
    exact lv_aload_n hX.1.1 hX.1.2.1 hd hi hl k2
theorem n_iload_n (hX : Gc X E own cc n0) {k : Fin 4} {i : Nat} {x : Int32} (hd : decode cc pc = .ok (.iload_n k, 1)) (hi : (k : Nat) = i) (j : Nat) (hj : lv[j]? = some (i, .int x)) (kk : GN X E n0 cl sl A (pc + 1) lv (.int x :: rest)) : GN X E n0 cl sl A pc lv rest := fun H locs ls h1 h2 h3 => lv_iload_n hX.1.1 hX.1.2.1 hd hi (lv_at h3 j hj) (kk H locs ls h1 h2 h3)
theorem n_sub {lv' : List (Nat × Value)} {st : List Value} (ks : List Nat) (h : lv_pick lv ks = lv') (k : GN X E n0 cl sl A pc lv' st) : GN X E n0 cl sl A pc lv st := fun H locs ls h1 h2 h3 => k H locs ls h1 h2 (g_lvm h3 (g_pick h))
theorem n_bipush (hX : Gc X E own cc n0) {n : Int} {v : Int32} (hd : decode cc pc = .ok (.bipush n, 2)) (hv : (Int8.ofInt n).toInt32 = v) (k : GN X E n0 cl sl A (pc + 2) lv (.int v :: rest)) : GN X E n0 cl sl A pc lv (rest) := fun H locs ls h1 h2 h3 => lv_bipush hX.1.1 hX.1.2.1 hd hv (k H locs ls h1 h2 h3)
theorem n_sipush (hX : Gc X E own cc n0) {n : Int} {v : Int32} (hd : decode cc pc = .ok (.sipush n, 3)) (hv : (Int16.ofInt n).toInt32 = v) (k : GN X E n0 cl sl A (pc + 3) lv (.int v :: rest)) : GN X E n0 cl sl A pc lv (rest) := fun H locs ls h1 h2 h3 => lv_sipush hX.1.1 hX.1.2.1 hd hv (k H locs ls h1 h2 h3)
theorem n_iconst (hX : Gc X E own cc n0) {n : Int} {v : Int32} (hd : decode cc pc = .ok (.iconst n, 1)) (hv : Int32.ofInt n = v) (k : GN X E n0 cl sl A (pc + 1) lv (.int v :: rest)) : GN X E n0 cl sl A pc lv (rest) := fun H locs ls h1 h2 h3 => lv_iconst hX.1.1 hX.1.2.1 hd hv (k H locs ls h1 h2 h3)
theorem n_dup (hX : Gc X E own cc n0) {v : Value} (hd : decode cc pc = .ok (.dup, 1)) (hv : v.category = 1) (k : GN X E n0 cl sl A (pc + 1) lv (v :: v :: rest)) : GN X E n0 cl sl A pc lv (v :: rest) := fun H locs ls h1 h2 h3 => lv_dup hX.1.1 hX.1.2.1 hd hv (k H locs ls h1 h2 h3)
theorem n_goto (hX : Gc X E own cc n0) {off : Int} {tgt : Nat} (hd : decode cc pc = .ok (.goto off, 3)) (ht : (pc : Int) + off = (tgt : Int)) (k : GN X E n0 cl sl A tgt lv rest) : GN X E n0 cl sl A pc lv rest := fun H locs ls h1 h2 h3 => lv_goto hX.1.1 hX.1.2.1 hd ht (k H locs ls h1 h2 h3)
theorem n_iinc (hX : Gc X E own cc n0) {i : Nat} {n : Int} {x : Int32} {lv0 : List (Nat × Value)} (hd : decode cc pc = .ok (.iinc i n, 3)) (j : Nat) (hj : lv[j]? = some (i, .int x)) {v : Int32} (hv : x + Int32.ofInt n = v) (hn : i < xnL X) (hm : ∀ q ∈ (i, Value.int v) :: lv0, q ∈ (i, Value.int v) :: lv.filter (fun q => !(q.1 == i) && !(q.1 + 1 == i && q.2.category == 2))) (kk : GN X E n0 cl sl A (pc + 3) ((i, .int v) :: lv0) rest) : GN X E n0 cl sl A pc lv rest := fun H locs ls h1 h2 h3 => lv_iinc hX.1.1 hX.1.2.1 hd h3 (k := j) hj hv hn rfl (fun ls9 h9 => kk H locs ls9 h1 h2 (g_lvm h9 hm))
theorem n_icmp_ge (hX : Gc X E own cc n0) {x y : Int32} {off : Int} {tgt : Nat} (hd : decode cc pc = .ok (.if_icmp .ge off, 3)) (ht : (pc : Int) + off = (tgt : Int)) (kt : y ≤ x → GN X E n0 cl sl A tgt lv rest) (kf : ¬ y ≤ x → GN X E n0 cl sl A (pc + 3) lv rest) : GN X E n0 cl sl A pc lv (.int y :: .int x :: rest) := fun H locs ls h1 h2 h3 => lv_icmp_ge hX.1.1 hX.1.2.1 hd ht (fun q => kt q H locs ls h1 h2 h3) (fun q => kf q H locs ls h1 h2 h3)
theorem n_istore_n (hX : Gc X E own cc n0) {k : Fin 4} {i : Nat} {x : Int32} {lv0 : List (Nat × Value)} (hd : decode cc pc = .ok (.istore_n k, 1)) (hi : (k : Nat) = i) (hn : i < xnL X) (hm : ∀ q ∈ (i, .int x) :: lv0, q ∈ (i, .int x) :: lv.filter (fun q => !(q.1 == i) && !(q.1 + 1 == i && q.2.category == 2))) (kk : GN X E n0 cl sl A (pc + 1) ((i, .int x) :: lv0) rest) : GN X E n0 cl sl A pc lv (.int x :: rest) := fun H locs ls h1 h2 h3 => lv_istore_n hX.1.1 hX.1.2.1 hd hi h3 hn rfl (fun ls9 h9 => kk H locs ls9 h1 h2 (g_lvm h9 hm))
theorem n_gets (hX : Gc X E own cc n0) {C n d : String} {index : Nat} {v : Value} (hz : va_Z C n d v (eA E) (xs X) (xs X).heap) (hl : Cond.fieldLink own index C n d ∈ gtb) (hd : decode cc pc = .ok (.getstatic index, 3)) (k : GN X E n0 cl sl A (pc + 3) lv (v :: rest)) : GN X E n0 cl sl A pc lv rest :=
  fun H locs ls h1 h2 h3 => va_gets hX.1.1 hX.1.2.1 hz h2 hX.1.2.2.2.1 (hX.1.2.2.2.2.1 _ hl) (fun _ h => h) hd (k H locs ls h1 h2 h3)
theorem n_getf (hX : Gc X E own cc n0) {index c i x ix : Nat} (hf : FLk own index c i) (hk : kd x = c) (hi0 : ix < n0 + cl) (hx : alo[ix]? = some x) (hd : decode cc pc = .ok (.getfield index, 3)) (k : GN X E n0 cl sl A (pc + 3) lv (fv E A x i (fts c i) :: rest)) : GN X E n0 cl sl A pc lv (cr E x :: rest) := by
  subst hk
  obtain ⟨⟨hc, hin, h50, hty, hnm⟩, hi, hl⟩ := hf
  have hx0 : x ≠ 0 := by
    rintro rfl
    exact absurd h50.1 (by decide)
  intro H locs ls h1 h2 h3
  have e2 := wsN_at E A hi0 hx
  rw [cr_pos hx0]
  have e3 : ent E A x = .inr (kd x - 1, (List.range (nf (kd x))).map (fun i => fv E A x i (fts (kd x) i))) := by unfold ent; rw [if_pos h50.2]
  rw [e3] at e2
  obtain ⟨⟨hx, hb, hml, hown, hts, ⟨hEO, hK, hB, hSF⟩, hlk⟩, -⟩ := hX
  exact va_get (D := eD E) (cl := cls) hx hb hts hin hown hK h1.1 ix e2 hc i hi (hts _ hl) (fun _ h => h) (by simp [List.getElem?_map, List.getElem?_range hi]) hd (k H locs ls h1 h2 h3)
theorem n_putf (hX : Gc X E own cc n0) (hini : (xmeth X).name = "<init>") {index c i x ix : Nat} {A' : Mem} {v : Value} (hf : FLk own index c i) (hown2 : (fT c i).1 = own) (hk : kd x = c) (hi0 : ix < n0 + cl) (hx9 : alo[ix]? = some x) (hn : narrow (fTy c i) v = v) (hfit : fits (fTy c i) v = true) (hs : fv E A' x i (fts c i) = v) (ho : ∀ j, j ≠ i → fv E A' x j (fts c j) = fv E A x j (fts c j)) (he : ∀ j, j ≠ x → ent E A' j = ent E A j)
    (hz : ∀ k j, k ≠ x → gI A' k j = gI A k j ∧ gD A' k j = gD A k j ∧ gR A' k j = gR A k j ∧ gL A' k j = gL A k j)
    (hd : decode cc pc = .ok (.putfield index, 3)) (k : GN X E n0 cl sl A' (pc + 3) lv rest) : GN X E n0 cl sl A pc lv (v :: cr E x :: rest) := by
  subst hk
  obtain ⟨⟨hc, hin, h50, hty, hnm⟩, hi, hl⟩ := hf
  have hx0 : x ≠ 0 := by
    rintro rfl
    exact absurd h50.1 (by decide)
  intro H locs ls h1 h2 h3
  have e2 := wsN_at E A hi0 hx9
  rw [cr_pos hx0]
  have e3 : ent E A x = .inr (kd x - 1, (List.range (nf (kd x))).map (fun i => fv E A x i (fts (kd x) i))) := by unfold ent; rw [if_pos h50.2]
  have e4 : ent E A' x = .inr (kd x - 1, ((List.range (nf (kd x))).map (fun i => fv E A x i (fts (kd x) i))).set i v) := by
    unfold ent
    rw [if_pos h50.2, fv_list E hi hs ho]
  rw [e3] at e2
  have hzz := zero_ne hi0 hx9 h1.2 hz
  obtain ⟨⟨hx, hb, hml, hown, hts, ⟨hEO, hK, hB, hSF⟩, hlk⟩, -, hOff, -⟩ := hX
  cases hfin : (fT (kd x) i).2.2.2 with
  | false =>
    refine va_put (D := eD E) (cl := cls) hx hb hts hin (fTy (kd x)) hty hnm hown hK h1.1 (wsN_D hOff A _) h2 ix e2 hc i hi (hts _ hl) (fun _ h => h) hfin (hty i hi) hn hfit (by simpa using hi) hd (fun H1 locs1 hP hD hS => ?_)
    rw [wsN_set E hi0 hx9 he e4] at hP
    exact k H1 locs1 ls ⟨hP, hzz⟩ hS h3
  | true =>
    refine va_putF (D := eD E) (cl := cls) hx hb hts hin (fTy (kd x)) hty hnm hown hK h1.1 (wsN_D hOff A _) h2 ix e2 hc i hi (hts _ hl) (fun _ h => h) hfin hini hown2 (hty i hi) hn hfit (by simpa using hi) hd (fun H1 locs1 hP hD hS => ?_)
    rw [wsN_set E hi0 hx9 he e4] at hP
    exact k H1 locs1 ls ⟨hP, hzz⟩ hS h3
theorem n_putI (hX : Gc X E own cc n0) (hini : (xmeth X).name = "<init>") {index c i x ix : Nat} {v : Int32} (hf : FLk own index c i) (hown2 : (fT c i).1 = own) (ht : fts c i = 0) (hty : fTy c i = .int ∨ (fTy c i = .boolean ∧ isB v)) (hk : kd x = c) (hi0 : ix < n0 + cl) (hx9 : alo[ix]? = some x) (hd : decode cc pc = .ok (.putfield index, 3)) (k : GN X E n0 cl sl (sI A x i v) (pc + 3) lv rest) : GN X E n0 cl sl A pc lv (.int v :: cr E x :: rest) := by
  refine n_putf hX hini hf hown2 hk hi0 hx9 ?_ ?_ (by rw [ht]; exact congrArg Value.int up2_self) (fvI E c) (entI E) zI hd k
  · rcases hty with hty | ⟨hty, rfl | rfl⟩ <;> rw [hty] <;> rfl
  · rcases hty with hty | ⟨hty, rfl | rfl⟩ <;> rw [hty] <;> rfl
theorem n_putR (hX : Gc X E own cc n0) (hini : (xmeth X).name = "<init>") {index c i x ix v : Nat} (hf : FLk own index c i) (hown2 : (fT c i).1 = own) (ht : fts c i = 2) (hty : (∃ n, fTy c i = .object n) ∨ ∃ t, fTy c i = .array t) (hk : kd x = c) (hi0 : ix < n0 + cl) (hx9 : alo[ix]? = some x) (hd : decode cc pc = .ok (.putfield index, 3)) (k : GN X E n0 cl sl (sR A x i v) (pc + 3) lv rest) : GN X E n0 cl sl A pc lv (cr E v :: cr E x :: rest) := by
  refine n_putf hX hini hf hown2 hk hi0 hx9 ?_ ?_ (by rw [ht]; exact congrArg (cr E) up2_self) (fvR E c) (entR E) zR hd k
  · rcases hty with ⟨n, hty⟩ | ⟨n, hty⟩ <;> rw [hty] <;> unfold cr <;> cases ro E v <;> rfl
  · rcases hty with ⟨n, hty⟩ | ⟨n, hty⟩ <;> rw [hty] <;> unfold cr <;> cases ro E v <;> rfl
/-- a new cell: the next in the order -/
theorem RelN_push {E : EVT} (hOff : OffE E) {n k : Nat} {A : Mem} {H H1 : Heap} (h : RelN E n A H) (hk : alo[n]? = some k) (hsz : H.size = eB E + n) (ho : ∀ q, q < H.size → H1[q]? = H[q]?) (hat : va_at (eD E) cls (ead E k, ent E A k) H1) : RelN E (n + 1) A H1 := by
  refine ⟨fun i q hq => ?_, fun i k' hi hk' => h.2 i k' (by omega) hk'⟩
  rw [wsN_get] at hq
  split at hq
  · by_cases hin : i < n
    · have hq' : (wsN E n A)[i]? = some q := by rw [wsN_get, if_pos hin]; exact hq
      exact (h.1 i q hq').kept (ho _ (h.1 i q hq').lt)
    · have : i = n := by omega
      subst this
      rw [hk] at hq
      cases hq
      exact hat
  · cases hq
theorem vaS_push {A : Nat → Prop} {H0 H H1 : Heap} {locs : List Loc} (h : va_S A H0 H locs) (hz : H.size ≤ H1.size) (ho : ∀ q, q < H.size → H1[q]? = H[q]?) : va_S A H0 H1 locs := ⟨Nat.le_trans h.1 hz, fun q h1 h2 => (ho q (Nat.lt_of_lt_of_le h1 h.1)).trans (h.2.1 q h1 h2), h.2.2⟩
def dvl : Nat → Value
  | 0 => .int 0
  | 1 => .double 0
  | 2 => .null
  | _ => .long 0
theorem n_new (hX : Gc X E own cc n0) {index c k : Nat} (hC : CFk c) (hl : Cond.classLink own index (fC c) ∈ gtb ∧ Cond.instantiable (fC c) (nf c) ∈ gtb ∧ Cond.initialized (fC c) ∈ gtb) (hk : alo[n0 + cl]? = some k) (hkd : kd k = c) (hdef : ∀ j, j < nf c → defaultValue (fTy c j) = dvl (fts c j)) (hro : cl + 1 ≤ (xR X).cells ∧ sl + nf c ≤ (xR X).slots) (hd : decode cc pc = .ok (.new index, 3))
    (kk : GN X E n0 (cl + 1) (sl + nf c) A (pc + 3) lv (cr E k :: rest)) : GN X E n0 cl sl A pc lv rest := by
  subst hkd
  obtain ⟨hc0, hin, h50, hty, hnm⟩ := hC
  have hx0 : k ≠ 0 := by
    rintro rfl
    exact absurd h50.1 (by decide)
  refine GN_of hX (Nat.le_of_lt (List.getElem?_eq_some_iff.mp hk).1) (fun H locs ls h1 h2 h3 hsz => ?_)
  obtain ⟨⟨hx, hb, hml, hown, hts, ⟨hEO, hK, hB, hSF⟩, hlk⟩, hAr, hOff, hs0⟩ := hX
  have hKn := hK.1 _ _ hc0
  refine W.newcK hx hb hown (hts _ hl.1) (hts _ hl.2.1) (hts _ hl.2.2) rfl hd hro.1 hro.2 hKn.2.1 rfl fun H1 kC hkC e1 z1 o1 => ?_
  have hko : ead E k = H.size := by rw [hOff _ _ hk, hsz]
  have hcr : cr E k = .ref H.size := by rw [cr_pos hx0, hko]
  rw [← hcr]
  have hR9 : va_at (eD E) cls (ead E k, ent E A k) H1 → RelN E (n0 + (cl + 1)) A H1 := fun h => by
    have h8 := RelN_push hOff h1 hk hsz o1 h
    rw [Nat.add_assoc] at h8
    exact h8
  refine kk H1 locs ls (hR9 ?_) (vaS_push h2 (by rw [z1]; exact Nat.le_succ _) o1) h3
  rw [hko]
  have e3 : ent E A k = .inr (kd k - 1, (List.range (nf (kd k))).map (fun i => fv E A k i (fts (kd k) i))) := by unfold ent; rw [if_pos h50.2]
  rw [e3]
  refine ⟨_, hc0, (u_born (fTy (kd k)) hts hin hKn hkC e1 hty).to fun j hj => ?_⟩
  rw [hdef j hj]
  have hz := h1.2 (n0 + cl) k (Nat.le_refl _) hk j
  have e5 : vp_V ((List.range (nf (kd k))).map (fun i => fv E A k i (fts (kd k) i))) j = fv E A k j (fts (kd k) j) := by
    simp [vp_V, List.getD_eq_getElem?_getD, List.getElem?_map, List.getElem?_range hj]
  rw [e5]
  unfold fv dvl
  rw [hz.1, hz.2.1, hz.2.2.1, hz.2.2.2, cr_zero]
  generalize fts (kd k) j = t
  rcases t with _ | _ | _ | _ <;> rfl
theorem n_newarr (hX : Gc X E own cc n0) {k kk0 N : Nat} {n : Int32} {atype : ArrayType} (hkk : kk0 ∈ [51, 52, 53, 54]) (hat : newarray.typeOf atype = arT kk0) (hw : Cond.arrayClass (newarray.typeOf atype) ∈ gtb) (hk : alo[n0 + cl]? = some k) (hkd : kd k = kk0) (hN : al k = N) (hn : ¬ n < 0) (hnN : n.toNatClampNeg = N) (hby : N * componentBytes (newarray.typeOf atype) ≤ 536870912) (hro : cl + 1 ≤ (xR X).cells ∧ sl + N ≤ (xR X).slots) (hd : decode cc pc = .ok (.newarray atype, 2))
    (kk : GN X E n0 (cl + 1) (sl + N) A (pc + 2) lv (cr E k :: rest)) : GN X E n0 cl sl A pc lv (.int n :: rest) := by
  subst hN; subst hkd
  have hx0 : k ≠ 0 := by
    rintro rfl
    exact absurd hkk (by decide)
  refine GN_of hX (Nat.le_of_lt (List.getElem?_eq_some_iff.mp hk).1) (fun H locs ls h1 h2 h3 hsz => ?_)
  obtain ⟨⟨hx, hb, hml, hown, hts, ⟨hEO, hK, hB, hSF⟩, hlk⟩, hAr, hOff, hs0⟩ := hX
  refine va_newaK hx hb (hts _ hw) rfl hd rfl hn hnN hby hro.1 hro.2 rfl fun H1 cA e1 z1 o1 hof hfc => ?_
  have hko : ead E k = H.size := by rw [hOff _ _ hk, hsz]
  have hcr : cr E k = .ref H.size := by rw [cr_pos hx0, hko]
  rw [← hcr]
  have hR9 : va_at (eD E) cls (ead E k, ent E A k) H1 → RelN E (n0 + (cl + 1)) A H1 := fun h => by
    have h8 := RelN_push hOff h1 hk hsz o1 h
    rw [Nat.add_assoc] at h8
    exact h8
  refine kk H1 locs ls (hR9 ?_) (vaS_push h2 (by rw [z1]; exact Nat.le_succ _) o1) h3
  rw [hko]
  have hcA : cA = ecA E (kd k) := by
    rw [hat, hAr.1 _ hkk] at hfc
    exact (Option.some.inj hfc).symm
  have hz := fun j => h1.2 (n0 + cl) k (Nat.le_refl _) hk j
  have zi1 : gI A k = fun _ => 0 := funext fun j => (hz j).1
  have z2 : gD A k = fun _ => 0 := funext fun j => (hz j).2.1
  have z4 : gL A k = fun _ => 0 := funext fun j => (hz j).2.2.2
  rw [hat, hcA] at e1
  have hge : ¬ kd k < 50 := by
    simp only [List.mem_cons, List.not_mem_nil, or_false] at hkk
    rcases hkk with h | h | h | h <;> rw [h] <;> decide
  show va_at (eD E) cls (H.size, ent E A k) H1
  unfold ent
  rw [if_neg hge]
  show H1[H.size]? = some (vp_cell _ _)
  rw [e1]
  simp only [List.mem_cons, List.not_mem_nil, or_false] at hkk
  rcases hkk with h | h | h | h <;> rw [h] <;> simp [zi1, z2, z4, vp_cell, arT, defaultValue]
theorem n_anew (hX : Gc X E own cc n0) {index k N : Nat} {n : Int32} (hw : Cond.classLink own index "BasicMachine$Line" ∈ gtb) (hk : alo[n0 + cl]? = some k) (hkd : kd k = 55) (hN : al k = N) (hn : ¬ n < 0) (hnN : n.toNatClampNeg = N) (hby : N * 4 ≤ 536870912) (hro : cl + 1 ≤ (xR X).cells ∧ sl + N ≤ (xR X).slots) (hd : decode cc pc = .ok (.anewarray index, 3))
    (kk : GN X E n0 (cl + 1) (sl + N) A (pc + 3) lv (cr E k :: rest)) : GN X E n0 cl sl A pc lv (.int n :: rest) := by
  subst hN
  have hx0 : k ≠ 0 := by
    rintro rfl
    exact absurd hkd (by decide)
  refine GN_of hX (Nat.le_of_lt (List.getElem?_eq_some_iff.mp hk).1) (fun H locs ls h1 h2 h3 hsz => ?_)
  obtain ⟨⟨hx, hb, hml, hown, hts, ⟨hEO, hK, hB, hSF⟩, hlk⟩, hAr, hOff, hs0⟩ := hX
  rw [← hnN] at hby hro kk
  refine W.anew hx hb hown (hts _ hw) (va_AO.use hAr.2.2) rfl hd rfl hn hby hro.1 hro.2 fun cA kA comp f1 f2 f3 f4 => ?_
  generalize hH1 : H.push ({ cls := cA, slots := Array.replicate n.toNatClampNeg .null, vm := .none } : Cell) = H1
  have z1 : H1.size = H.size + 1 := by rw [← hH1, Array.size_push]
  have e1 : H1[H.size]? = some (arrV cA n.toNatClampNeg (fun _ => .null)) := by rw [← hH1, Array.getElem?_push_size, ← arrV_new]
  have o1 : ∀ q : Nat, q < H.size → H1[q]? = H[q]? := fun q hq => by rw [← hH1, Array.getElem?_push, if_neg (Nat.ne_of_lt hq)]
  have hko : ead E k = H.size := by rw [hOff _ _ hk, hsz]
  have hcr : cr E k = .ref H.size := by rw [cr_pos hx0, hko]
  rw [← hcr]
  have hR9 : va_at (eD E) cls (ead E k, ent E A k) H1 → RelN E (n0 + (cl + 1)) A H1 := fun h => by
    have h8 := RelN_push hOff h1 hk hsz o1 h
    rw [Nat.add_assoc] at h8
    exact h8
  refine kk H1 locs ls (hR9 ?_) (vaS_push h2 (by rw [z1]; exact Nat.le_succ _) o1) h3
  rw [hko]
  have hcA : cA = ecA E 55 := by
    rw [hAr.2.1] at f1
    exact (Option.some.inj f1).symm
  have hz := fun j => h1.2 (n0 + cl) k (Nat.le_refl _) hk j
  have z3 : gR A k = fun _ => 0 := funext fun j => (hz j).2.2.1
  show va_at (eD E) cls (H.size, ent E A k) H1
  unfold ent
  rw [if_neg (by rw [hkd]; decide), hkd, ← hnN]
  show H1[H.size]? = some (vp_cell _ _)
  rw [e1, hcA]
  simp [z3, vp_cell, ro, va_rf]
theorem n_objinit (hX : Gc X E own cc n0) {F Q : Nat} (hR : F ≤ (xR X).frames ∧ Q ≤ (xR X).locals) {index k : Nat} (hk : k ≠ 0) (hl : Cond.methodLink own index Lib.objectInit ∈ gtb) (hw : Cond.instanceMethod Lib.objectInit ∈ gtb ∧ Cond.code Lib.objectInit ⟨#[0xb1]⟩ 1 none ∈ gtb) (hro : 1 ≤ F ∧ 20 ≤ Q) (hc : (rest.map fun v => v.category).sum ≤ 8) (hd : decode cc pc = .ok (.invokespecial index, 3))
    (kk : GN X E n0 cl sl A (pc + 3) lv rest) : GN X E n0 cl sl A pc lv (cr E k :: rest) := by
  intro H locs ls h1 h2 h3
  obtain ⟨⟨hx, hb, hml, hown, hts, hEF, hlk⟩, -⟩ := hX
  rw [cr_pos hk]
  exact W.objInit hx hb hown (hts _ hl) (hts _ hw.1) (hts _ hw.2) rfl (by rw [hml]; exact h3.1) rfl hd (Nat.le_trans hro.1 hR.1) (by show 2 * 0 + _ + 12 ≤ _; have := hR.2; omega) (kk H locs ls h1 h2 h3)
end CN
theorem EF_blind {E : EVT} (a : Array Value) (U : State) (g : JFrame) (mk : MethodId) (h : EF E U) : EF E (U.calling g mk a) := ⟨h.1, va_K.moved (u := U) (U := U.calling g mk a) (Vm.Alike.refl U.vm) h.2.1, h.2.2.1, SF2_mv (u := U) (U := U.calling g mk a) (Vm.Alike.refl U.vm) h.2.2.2.1, fun w hw => va_Nw.same (u := U) (U := U.calling g mk a) (nest_tab hw) rfl (h.2.2.2.2.1 w hw), fun q hq => vk_R.same (u := U) (U := U.calling g mk a) rfl (h.2.2.2.2.2 q hq)⟩
def FrmC (fr lo mc ms : Nat) : Room := { frames := fr, cells := mc, slots := ms, locals := lo }
def PcC (E : EVT) (av : List Value) (n : Nat) (A : Mem) : Array Value → State → Prop := va_Pc av (fun U => EF E U ∧ ArE E U ∧ OffE E ∧ U.heap.size = eB E + n ∧ RelN E n A U.heap)
theorem PcC_blind (E : EVT) (av : List Value) (n : Nat) (A : Mem) : FrameBlind (PcC E av n A) := fun a U g mk h => ⟨h.1, EF_blind a U g mk h.2.1, ArE_mv (u := U) (U := U.calling g mk a) (Vm.Alike.refl U.vm) h.2.2.1, h.2.2.2.1, h.2.2.2.2.1, h.2.2.2.2.2⟩
def CtC (y : MethodName) (cc : ByteArray) (maxL fr lo mc ms n o : Nat) (A A' : Mem) : Prop := ∀ (l : Launch) (E : EVT), Met l y (wsY y cc maxL none) (FrmC fr lo mc ms) (PcC E [cr E o] n A) (va_Qv (fun u => u = A') (fun u t => RelN E (n + mc) u t.heap) (eA E)) mc ms (eA E)
def MFc (y : MethodName) (cc : ByteArray) (maxL : Nat) : Prop := Cond.code y cc maxL none ∈ gtb ∧ Cond.instanceMethod y ∈ gtb ∧ Cond.initialized y.cls ∈ gtb ∧ y.name = "<init>" ∧ (y.cls ≠ "java/lang/invoke/MethodHandle" ∧ y.cls ≠ "java/lang/invoke/VarHandle" ∧ (parseMethodDescriptor y.desc).map (fun d => d.parameters.length) = some 0)
def QC (X : CXT) (E : EVT) (n0 mc ms : Nat) (A' : Mem) : Prop := xQ X = MQ (xb X) (va_Qv (fun u => u = A') (fun u t => RelN E (n0 + mc) u t.heap) (eA E)) (xa X) (xs X) mc ms (eA E) ∧ (xmeth X).sig.returnType = none ∧ mc ≤ (xR X).cells ∧ ms ≤ (xR X).slots
section CN2
variable {X : CXT} {E : EVT} {own : String} {cc : ByteArray} {n0 cl sl : Nat} {A : Mem} {pc : Nat} {lv : List (Nat × Value)} {rest : List Value}
theorem n_init (hX : Gc X E own cc n0) {F Q : Nat} (hR : F ≤ (xR X).frames ∧ Q ≤ (xR X).locals) {y : MethodName} {bytes : ByteArray} {maxL index fr lo mc ms k n1 cl1 sl1 : Nat} {A' : Mem} (hl : Cond.methodLink own index y ∈ gtb) (hM : MFc y bytes maxL) (hc : CtC y bytes maxL fr lo mc ms n1 k A A') (hn1 : n0 + cl = n1) (hk0 : k ≠ 0) (hcl : cl + mc = cl1) (hsl : sl + ms = sl1) (hro : fr + 1 ≤ F ∧ maxL + 19 + lo ≤ Q) (hrm : cl1 ≤ (xR X).cells ∧ sl1 ≤ (xR X).slots) (hn : n1 ≤ alo.length) (hw4 : (rest.map fun v => v.category).sum ≤ 8) (hd : decode cc pc = .ok (.invokespecial index, 3))
    (kk : GN X E n0 cl1 sl1 A' (pc + 3) lv rest) : GN X E n0 cl sl A pc lv (cr E k :: rest) := by
  subst hn1; subst hcl; subst hsl
  refine GN_of hX hn (fun H locs ls h1 h2 h3 hsz => ?_)
  obtain ⟨⟨hx, hb, hml, hown, hts, hEF, hlk⟩, hAr, hOff, hs0⟩ := hX
  have hroom : (FrmC fr lo mc ms).frames + 1 ≤ (xR X).frames ∧ 8 + (maxL + 11) + (FrmC fr lo mc ms).locals ≤ (xR X).locals := ⟨Nat.le_trans hro.1 hR.1, by have := hR.2; show 8 + (maxL + 11) + lo ≤ _; omega⟩
  have hw : 2 * 0 + (rest.map fun v => v.category).sum ≤ 8 := by omega
  have hpre : ∀ U : State, U.heap = H → (xs X).WarmedH U.vm → PcC E [cr E k] (n0 + cl) A (Value.ref (ead E k) :: []).toArray U := fun U hU hW => ⟨by rw [cr_pos hk0], EF_mv hEF h2 hU hW, ArE_mv hW.alike hAr, hOff, by rw [hU]; exact hsz, by rw [hU]; exact h1⟩
  rw [cr_pos hk0]
  exact va_callv (va_runI (As := []) (rest := rest) ⟨hx, hb, hml, hown, hts⟩ (hc (xl X) E) (cwI 0 hts (lw_goodc hM.1 lw_good) rfl rfl rfl (hts _ hM.2.2.1) (hts _ hl) (hts _ hM.2.1) hM.2.2.2.1 hM.2.2.2.2 hroom) ⟨PcC_blind E _ _ A, hpre⟩ rfl rfl h3.1 rfl hw hd hrm) h2 (fun q _ h => h) (fun q h => h) (fun u t H1 locs1 ht hvm hp hB hz1 hk1 hS => by
    subst hp
    exact kk H1 locs1 ls (by rw [← ht, ← Nat.add_assoc]; exact hB) hS h3)
theorem n_initN (hX : Gc X E own cc n0) {F Q : Nat} (hR : F ≤ (xR X).frames ∧ Q ≤ (xR X).locals) {y : MethodName} {bytes : ByteArray} {maxL index fr lo mc ms k n1 cl1 sl1 : Nat} {A' : Mem} {host : String} (hl : Cond.methodLinkNest own index y host ∈ nestW) (hM : MFc y bytes maxL) (hc : CtC y bytes maxL fr lo mc ms n1 k A A') (hn1 : n0 + cl = n1) (hk0 : k ≠ 0) (hcl : cl + mc = cl1) (hsl : sl + ms = sl1) (hro : fr + 1 ≤ F ∧ maxL + 19 + lo ≤ Q) (hrm : cl1 ≤ (xR X).cells ∧ sl1 ≤ (xR X).slots) (hn : n1 ≤ alo.length) (hw4 : (rest.map fun v => v.category).sum ≤ 8) (hd : decode cc pc = .ok (.invokespecial index, 3))
    (kk : GN X E n0 cl1 sl1 A' (pc + 3) lv rest) : GN X E n0 cl sl A pc lv (cr E k :: rest) := by
  subst hn1; subst hcl; subst hsl
  refine GN_of hX hn (fun H locs ls h1 h2 h3 hsz => ?_)
  obtain ⟨⟨hx, hb, hml, hown, hts, hEF, hlk⟩, hAr, hOff, hs0⟩ := hX
  have hroom : (FrmC fr lo mc ms).frames + 1 ≤ (xR X).frames ∧ 8 + (maxL + 11) + (FrmC fr lo mc ms).locals ≤ (xR X).locals := ⟨Nat.le_trans hro.1 hR.1, by have := hR.2; show 8 + (maxL + 11) + lo ≤ _; omega⟩
  have hw : 2 * 0 + (rest.map fun v => v.category).sum ≤ 8 := by omega
  have hpre : ∀ U : State, U.heap = H → (xs X).WarmedH U.vm → PcC E [cr E k] (n0 + cl) A (Value.ref (ead E k) :: []).toArray U := fun U hU hW => ⟨by rw [cr_pos hk0], EF_mv hEF h2 hU hW, ArE_mv hW.alike hAr, hOff, by rw [hU]; exact hsz, by rw [hU]; exact h1⟩
  rw [cr_pos hk0]
  exact va_callv (va_runIN (As := []) (rest := rest) ⟨hx, hb, hml, hown, hts⟩ (hc (xl X) E) ⟨va_cnB 0 hts (lw_goodc hM.1 lw_good) rfl rfl rfl (hEF.2.2.2.2.1 _ hl) (hts _ hM.2.2.1) hM.2.2.2.2 hroom, hM.2.2.2.1, hts _ hM.2.1⟩ ⟨PcC_blind E _ _ A, hpre⟩ rfl rfl h3.1 rfl hw hd hrm) h2 (fun q _ h => h) (fun q h => h) (fun u t H1 locs1 ht hvm hp hB hz1 hk1 hS => by
    subst hp
    exact kk H1 locs1 ls (by rw [← ht, ← Nat.add_assoc]; exact hB) hS h3)
theorem n_getsE (hX : Gc X E own cc n0) {C d : String} {nm : List String} {b i r index : Nat} (he : enF C d nm b E (xs X) (xs X).heap) (hi : i < nm.length) (hr : b + i = r) (h0 : r ≠ 0) (hl : Cond.fieldLink own index C (nm.getD i "") d ∈ gtb) (hd : decode cc pc = .ok (.getstatic index, 3)) (k : GN X E n0 cl sl A (pc + 3) lv (cr E r :: rest)) : GN X E n0 cl sl A pc lv rest := by
  subst hr
  rw [cr_pos h0] at k
  exact n_gets hX (he i hi).1 hl hd k
theorem n_vret (hX : Gc X E own cc n0) {mc ms : Nat} {A' : Mem} (hQ : QC X E n0 mc ms A') (hA : A = A') (hc : cl = mc) (hs : sl = ms) {st : List Value} (hst : st = []) (hd : decode cc pc = .ok (.return_, 1)) : GN X E n0 cl sl A pc lv st := by
  subst hA; subst hc; subst hs; subst hst
  intro H locs ls h1 h2 h3
  obtain ⟨⟨hx, hb, hml, hown, hts, hEF, hlk⟩, -⟩ := hX
  rw [hQ.1]
  exact W.vret hx hb hQ.2.1 (fun t ht9 hW9 => ⟨⟨A, rfl, rfl, by show RelN E (n0 + cl) A t.heap; rw [ht9]; exact h1⟩, h2.F ht9⟩) h2.2.2 hd hlk
theorem ctC_of {y : MethodName} {maxL fr lo mc ms n o : Nat} {A' : Mem} (hy : plainName y.cls = true) (ho : y.cls = own) (hn : y.name = "<init>") (hm : 1 ≤ maxL)
    (walk : ∀ (X : CXT) (E : EVT), Gc X E own cc n → (xmeth X).name = "<init>" → (fr ≤ (xR X).frames ∧ lo ≤ (xR X).locals) → xnL X = maxL → QC X E n mc ms A' → GN X E n 0 0 A 0 [(0, cr E o)] []) : CtC y cc maxL fr lo mc ms n o A A' := by
  intro l E
  refine Met.ofW (cc := cc) (maxL := maxL) (ret := none) hy rfl ?_
  intro p e s m args below meth c s₁ B hml hv
  obtain ⟨rfl, hEF, hAr, hOff, hsz, hRel⟩ := hv
  have hts := atoms_spec (ws := wsY y cc maxL none) B.pre
  rw [lg_entry_eq]
  have hname : meth.name = "<init>" := by
    have h9 := name_of_methodNamed B.named B.method
    rw [h9.1]; exact hn
  refine walk (p, l, e, (headSpec (wsY y cc maxL none) (FrmC fr lo mc ms)).room, s, m, ([cr E o] : List Value).toArray, below, meth, c, 0, 0, _, maxL) E ⟨⟨B.exec, B.bytes, hml, ho ▸ findClass_of_methodNamed B.named, fun w h => hts w (List.mem_cons_of_mem _ h), hEF, B.notSynchronized⟩, hAr, hOff, hsz⟩ hname ⟨Nat.le_refl _, Nat.le_refl _⟩ rfl ⟨rfl, B.returns, Nat.le_refl _, Nat.le_refl _⟩ s.heap [] _ hRel va_S.rf (lv_entry [cr E o] (by simp [lg_sl, cr_cat]; exact hm)) 
theorem n_alen55 (hX : Gc X E own cc n0) {x ix : Nat} {n : Int32} (hk : kd x = 55) (hi0 : ix < n0 + cl) (hx9 : alo[ix]? = some x) (hn : Int32.ofNat (al x) = n) (hd : decode cc pc = .ok (.arraylength, 1)) (k : GN X E n0 cl sl A (pc + 1) lv (.int n :: rest)) : GN X E n0 cl sl A pc lv (cr E x :: rest) := by
  have hx0 : x ≠ 0 := by
    rintro rfl
    exact absurd hk (by decide)
  intro H locs ls h1 h2 h3
  have e2 := wsN_at E A hi0 hx9
  rw [cr_pos hx0]
  have hge : ¬ kd x < 50 := by rw [hk]; decide
  unfold ent at e2
  rw [if_neg hge] at e2
  obtain ⟨⟨hx, hb, hml, hown, hts, ⟨hEO, hK, hB, hSF⟩, hlk⟩, -⟩ := hX
  rw [hk] at e2
  exact va_alen (D := eD E) (cl := cls) hx hb hK h1.1 ix 4 e2 rfl hn hd (k H locs ls h1 h2 h3)
theorem n_aastore (hX : Gc X E own cc n0) {x v ix iv : Nat} {i : Int32} (hk : kd x = 55) (hi0 : ix < n0 + cl) (hx9 : alo[ix]? = some x) (hv3 : kd v = 3) (hiv : iv < n0 + cl) (hv9 : alo[iv]? = some v) (hin : vp_in i (al x)) (hd : decode cc pc = .ok (.aastore, 1)) (k : GN X E n0 cl sl (sR A x i.toNatClampNeg v) (pc + 1) lv rest) : GN X E n0 cl sl A pc lv (cr E v :: .int i :: cr E x :: rest) := by
  have hx0 : x ≠ 0 := by
    rintro rfl
    exact absurd hk (by decide)
  have hv0 : v ≠ 0 := by
    rintro rfl
    exact absurd hv3 (by decide)
  intro H locs ls h1 h2 h3
  have e2 := wsN_at E A hi0 hx9
  rw [cr_pos hx0]
  have e3 : ent E A x = .inl (ecA E 55, al x, .inr (.inr (.inr (.inr (fun j => ro E (gR A x j)))))) := by unfold ent; rw [hk]; rfl
  have e5 : (fun j => ro E (gR (sR A x i.toNatClampNeg v) x j)) = va_up (fun j => ro E (gR A x j)) i.toNatClampNeg (ro E v) := by
    funext b
    by_cases hb : b = i.toNatClampNeg
    · subst hb
      simp [gR, sR, up2, va_up]
    · simp [gR, sR, up2, va_up, hb]
  have e4 : ent E (sR A x i.toNatClampNeg v) x = .inl (ecA E 55, al x, .inr (.inr (.inr (.inr (va_up (fun j => ro E (gR A x j)) i.toNatClampNeg (ro E v)))))) := by
    unfold ent
    rw [hk]
    show (Sum.inl (ecA E 55, al x, .inr (.inr (.inr (.inr (fun j => ro E (gR (sR A x i.toNatClampNeg v) x j)))))) : va_E) = _
    rw [e5]
  rw [e3] at e2
  have hzz := zero_ne hi0 hx9 h1.2 (zR (x := x) (i := i.toNatClampNeg) (v := v))
  obtain ⟨⟨hx, hb, hml, hown, hts, ⟨hEO, hK, hB, hSF⟩, hlk⟩, -, hOff, -⟩ := hX
  have g2 := wsN_at E A hiv hv9
  have e6 : ent E A v = .inr (2, (List.range (nf (kd v))).map (fun i => fv E A v i (fts (kd v) i))) := by unfold ent; rw [if_pos (by rw [hv3]; decide), hv3]
  rw [e6] at g2
  rw [cr_pos hv0]
  refine va_astq (D := eD E) (cl := cls) (ci := 2) (r := ("BasicMachine$Line", fT3, nf 3)) hx hb hK h1.1 (wsN_D hOff A _) h2 ix 4 iv e2 rfl g2 rfl hin hd (fun H1 locs1 hP hD hS => ?_)
  have e7 : ro E v = some (ead E v) := by unfold ro; rw [if_neg hv0]
  rw [← e7, wsN_set E hi0 hx9 (entR E) e4] at hP
  exact k H1 locs1 ls ⟨hP, hzz⟩ hS h3
end CN2
