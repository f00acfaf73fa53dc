def oKV (A0 : Mem) (va : Nat → UInt64) (base : List UInt64) (e : EV) (K : UInt64 → Mem → Prop) : Prop :=
  (∀ v, e = .ok v → ∀ A', okd v → EvS A0 va base 0 A' → K v A') ∧ (∀ f, e = .error f → f ≠ 0 → ∀ v s' A', okd v → EvS A0 va s' f A' → K v A')
/-- the functions that are defined: their argument and their expression -/
def FbA (A0 : Mem) (fb : Nat → Option (Nat × List SOp)) : Prop := ∀ f, f < 3 → (gR A0 10 f = 0 ∧ fb f = none) ∨
  ∃ (v : Int32) (dd : LDT) (i : Nat) (os : List SOp), CLv A0 (gR A0 10 f) v dd ∧ (100 ≤ gR A0 10 f ∧ gR A0 10 f < 125) ∧ dd.1 = 13 ∧ dd.2.1 = iN i ∧ i < 26 ∧ dd.2.2.2.2.1[0]? = some os ∧ GdE os ∧ fb f = some (i, os)
theorem cEn_get : ∀ (es : List (List SOp)) (a k : Nat) (e : List SOp), es[k]? = some e → (cEn a es)[k]? = some (iN (a + (es.take (k + 1)).flatten.length))
  | [], a, k, e, h => by simp at h
  | x :: r, a, 0, e, h => by simp [cEn]
  | x :: r, a, k + 1, e, h => by
    have h1 : r[k]? = some e := by simpa using h
    have := cEn_get r (a + x.length) k e h1
    simp only [cEn, List.getElem?_cons_succ, List.take_succ_cons, List.flatten_cons, List.length_append]
    rw [this]
    congr 2
    omega
theorem flt_get : ∀ (es : List (List SOp)) (k : Nat) (e : List SOp) (j : Nat) (x : SOp), es[k]? = some e → e[j]? = some x → (cOs es)[(es.take k).flatten.length + j]? = some (cOp x)
  | [], k, e, j, x, h, _ => by simp at h
  | y :: r, 0, e, j, x, h, hx => by
    have h1 : y = e := by simpa using h
    have hl := (List.getElem?_eq_some_iff.mp hx).1
    subst h1
    simp only [cOs, List.flatten_cons, List.map_append, List.take_zero, List.flatten_nil, List.length_nil, Nat.zero_add]
    rw [List.getElem?_append_left (by simpa using hl), List.getElem?_map, hx]
    rfl
  | y :: r, k + 1, e, j, x, h, hx => by
    have h1 : r[k]? = some e := by simpa using h
    have := flt_get r k e j x h1 hx
    simp only [cOs, List.flatten_cons, List.map_append, List.take_succ_cons, List.length_append]
    rw [List.getElem?_append_right (by simp; omega)]
    simp only [List.length_map]
    rw [show y.length + (r.take k).flatten.length + j - y.length = (r.take k).flatten.length + j by omega]
    exact this
theorem tk_len (es : List (List SOp)) (k : Nat) (e : List SOp) (h : es[k]? = some e) : (es.take (k + 1)).flatten.length = (es.take k).flatten.length + e.length := by
  rw [List.take_add_one, h]
  simp
theorem tk_le (es : List (List SOp)) (k : Nat) : (es.take k).flatten.length ≤ es.flatten.length := by
  have := congrArg (fun l : List (List SOp) => l.flatten.length) (List.take_append_drop k es)
  simp only [List.flatten_append, List.length_append] at this
  omega
section OPQ
variable {va : Nat → UInt64} {el : Nat → UInt64 → UInt64 → EV} {fd : Nat → Bool} {ca : Nat → UInt64 → EV} {a : Int32} {pl : Nat} {s r : List UInt64} {y w : UInt64}
theorem oq_0 : opE va el fd ca (0, a, pl) s = .ok (FP.ddiv (FP.i2d (th a pl)) 4652007308841189376 :: s) := rfl
theorem oq_1 : opE va el fd ca (1, a, pl) s = .ok (va a.toNatClampNeg :: s) := rfl
theorem oq_2 : opE va el fd ca (2, a, pl) (y :: w :: r) = psE r (el a.toNatClampNeg w y) := rfl
theorem oq_3 : opE va el fd ca (3, a, pl) (y :: r) = .ok (FP.dneg y :: r) := rfl
theorem oq_4 : opE va el fd ca (4, a, pl) (y :: w :: r) = psE r (ftE 4 (kpF (FP.dadd w y))) := rfl
theorem oq_5 : opE va el fd ca (5, a, pl) (y :: w :: r) = psE r (ftE 4 (kpF (FP.dsub w y))) := rfl
theorem oq_6 : opE va el fd ca (6, a, pl) (y :: w :: r) = psE r (ftE 4 (kpF (FP.dmul w y))) := rfl
theorem oq_7 : opE va el fd ca (7, a, pl) (y :: w :: r) = psE r (ftE 4 (dvF w y)) := rfl
theorem oq_8 : opE va el fd ca (8, a, pl) (y :: w :: r) = psE r (ftE 4 (pwF w y)) := by
  show psE r (ftE 4 (if (8:Nat) = 4 then kpF (FP.dadd w y) else if (8:Nat) = 5 then kpF (FP.dsub w y) else if (8:Nat) = 6 then kpF (FP.dmul w y) else if (8:Nat) = 7 then dvF w y else pwF w y)) = _
  rw [if_neg (by decide), if_neg (by decide), if_neg (by decide), if_neg (by decide)]
theorem oq_9 : opE va el fd ca (9, a, pl) (y :: r) = .ok (szF y :: r) := rfl
theorem oq_10 : opE va el fd ca (10, a, pl) (y :: r) = .ok (flF y :: r) := rfl
theorem oq_11 : opE va el fd ca (11, a, pl) (y :: r) = .ok (sgF y :: r) := rfl
theorem oq_12 : opE va el fd ca (12, a, pl) s = if fd a.toNatClampNeg then .ok s else .error 3 := rfl
theorem oq_13 : opE va el fd ca (13, a, pl) (y :: r) = psE r (ca a.toNatClampNeg y) := rfl
end OPQ
theorem cOp_1 (j : Nat) (a : Int32) (pl : Nat) : (cOp (j, a, pl)).1 = iN j := rfl
theorem cOp_2 (j : Nat) (a : Int32) (pl : Nat) : (cOp (j + 1, a, pl)).2 = a := rfl
theorem cOp_20 (a : Int32) (pl : Nat) : (cOp (0, a, pl)).2 = th a pl := rfl
section EV6
variable {A0 A : Mem} {va : Nat → UInt64} {mr mc : Nat → Nat} {S : Nat → Nat → Int32 → Int32 → Mem → (UInt64 → Mem → Prop) → Prop} {base : List UInt64} {fb : Nat → Option (Nat × List SOp)}
theorem n_endOf {L k : Nat} {v : Int32} {dd : LDT} {K : Int32 → Mem → Prop} {e : List SOp} (hL : 100 ≤ L) (hL2 : L < 125) (hW : WC A) (h : CLv A L v dd) (he : dd.2.2.2.2.1[k]? = some e) (kk : K (iN (dd.2.2.2.2.1.take (k + 1)).flatten.length) A) : wp_Li_endOf L (iN k) A K := by
  obtain ⟨s, q, hl, -, -, -, h14, hle, hls⟩ := h
  have hg := cEn_get _ 0 k e he
  have hk : k < (cEn 0 dd.2.2.2.2.1).length := (List.getElem?_eq_some_iff.mp hg).1
  have e1 := kdL hL hL2
  have e2 : kd (L + 120) = 51 ∧ al (L + 120) = 3 := by
    unfold kd al
    rw [if_neg (by omega), if_neg (by omega), if_neg (by omega), if_neg (by omega), if_neg (by omega), if_neg (by omega), if_neg (by omega), if_neg (by omega), if_neg (by omega), if_neg (by omega), if_pos (by omega), if_neg (by omega), if_neg (by omega), if_neg (by omega), if_neg (by omega), if_pos (by omega)]
    exact ⟨rfl, rfl⟩
  unfold wp_Li_endOf
  rw [h14, (hW.2.2.2.2.2 L hL hL2).2.2.2, show (0 : Int32) = iN 0 from rfl, iN_lt (by omega) (by omega), iN_le (by omega) (by omega), iN_cl (by omega), hls k _ hg, e2.2]
  refine ⟨fun q => by omega, fun _ => ⟨e1, fun q => by omega, fun _ => ⟨e2.1, iN_in (by omega) (by omega), ?_⟩⟩⟩
  rw [Nat.zero_add]; exact kk
theorem n_startOf {L k : Nat} {v : Int32} {dd : LDT} {K : Int32 → Mem → Prop} {e : List SOp} (hL : 100 ≤ L) (hL2 : L < 125) (hW : WC A) (h : CLv A L v dd) (he : dd.2.2.2.2.1[k]? = some e) (kk : K (iN (dd.2.2.2.2.1.take k).flatten.length) A) : wp_Li_startOf L (iN k) A K := by
  refine ⟨kdL hL hL2, ?_⟩
  cases k with
  | zero => exact ⟨fun _ => kk, fun q => absurd (by decide) q⟩
  | succ k =>
    rw [show (1 : Int32) = iN 1 from rfl, iN_sub (by omega), Nat.add_sub_cancel]
    have hk : k < dd.2.2.2.2.1.length := by have := (List.getElem?_eq_some_iff.mp he).1; omega
    exact n_endOf hL hL2 hW h (List.getElem?_eq_getElem hk) kk
/-- behind a fault nothing more is worked out -/
theorem n_evA {K : UInt64 → Mem → Prop} {s : List UInt64} {ft L : Nat} {x3 x4 x5 : Int32} {fu : Nat} (hW : WC A0) (h0 : ft ≠ 0) (h : EvS A0 va s ft A) (k : ∀ v s' A', okd v → EvS A0 va s' ft A' → K v A') : wp_Ca_evaluateB_c22 S K (fu + 1) 8 L x3 x4 x5 A := by
  unfold wp_Ca_evaluateB_c22
  refine ⟨fun _ => ⟨rfl, n_popA hW h (fun x s' A' hx h' => k x s' A' hx h')⟩, fun _ => ⟨rfl, n_fine h (fun q => absurd q h0) (fun _ => ⟨fun _ => n_popA hW h (fun x s' A' hx h' => k x s' A' hx h'), fun q => (by cases q)⟩)⟩⟩
theorem WC_Ev {s : List UInt64} {ft : Nat} (hW : WC A0) (h : EvS A0 va s ft A) : WC A := by
  obtain ⟨⟨a1, a2, a3, a4, a5, a6⟩, -⟩ := h
  obtain ⟨⟨w1, w2, w3, w4⟩, ⟨b1, b2, b3, b4, b5, b6⟩, ⟨c1, c2, c3, c4, c5, c6, c7⟩, ⟨d1, d2, d3, d4⟩, ⟨e1, e2, e3, e4⟩, f⟩ := hW
  unfold WC
  rw [a4 1 (by omega), a4 3 (by omega), a4 5 (by omega), a4 12 (by omega), a4 13 (by omega), a4 14 (by omega), a4 15 (by omega), a4 20 (by omega), a5 1 (by omega), a5 2 (by omega), a5 3 (by omega), a5 4 (by omega), a5 5 (by omega), a5 6 (by omega), a5 7 (by omega)]
  exact ⟨⟨w1, w2, w3, w4⟩, ⟨b1, b2, b3, b4, b5, b6⟩, ⟨c1, c2, c3, c4, c5, c6, c7⟩, ⟨d1, d2, d3, d4⟩, ⟨e1, e2, e3, e4⟩, fun L h1 h2 => by rw [a4 L (by omega)]; exact f L h1 h2⟩
theorem CLv_Ev {s : List UInt64} {ft L : Nat} {v : Int32} {dd : LDT} (hL : 100 ≤ L) (h : EvS A0 va s ft A) (k : CLv A0 L v dd) : CLv A L v dd :=
  CLv_cg k (h.1.2.1 _ (by omega)) (h.1.2.1 _ (by omega)) (h.1.2.1 _ (by omega)) (h.1.2.1 _ (by omega)) (h.1.2.1 _ (by omega)) (h.1.2.2.2.1 _ (by omega))
/-- one operation, of whatever kind -/
theorem n_apply {K : Mem → Prop} {x : SOp} {s : List UInt64} {n : Nat} {p3 : Int32} {ca : Nat → UInt64 → EV} (hW : WC A0) (hM : MxA A0 mr mc) (hF : FbA A0 fb) (hO : okO x) (hd : dpO x s.length = some n) (hl : (s ++ base).length < 240) (h : EvS A0 va (s ++ base) 0 A)
    (hc : ∀ f r u, f < 3 → EvS A0 va (u :: r ++ base) 0 A → oKS A0 va base (psE r (ca f u)) K → wp_Ca_callFunction S 8 (gR A0 10 f) p3 A K)
    (k : oKS A0 va base (opE va (elA A0 mr mc) (fun f => (fb f).isSome) ca x s) K) : wp_Ca_apply S 8 (cOp x).1 (cOp x).2 p3 A K := by
  obtain ⟨j, a, pl⟩ := x
  have hj : j < 14 := hO.1
  have e : j = 0 ∨ j = 1 ∨ j = 2 ∨ j = 3 ∨ j = 4 ∨ j = 5 ∨ j = 6 ∨ j = 7 ∨ j = 8 ∨ j = 9 ∨ j = 10 ∨ j = 11 ∨ j = 12 ∨ j = 13 := by omega
  have two : (if 2 ≤ s.length then some (s.length - 1) else none) = some n → ∃ y w r, s = y :: w :: r := fun q => by
    cases s with
    | nil => simp at q
    | cons y s =>
      cases s with
      | nil => simp at q
      | cons w r => exact ⟨y, w, r, rfl⟩
  have one : (if 1 ≤ s.length then some s.length else none) = some n → ∃ y r, s = y :: r := fun q => by
    cases s with
    | nil => simp at q
    | cons y s => exact ⟨y, s, rfl⟩
  rcases e with e | e | e | e | e | e | e | e | e | e | e | e | e | e <;> subst e
  · rw [oq_0] at k
    rw [cOp_1, cOp_20]
    exact ap_0 hW hl h k
  · obtain ⟨i, hi, he⟩ := hO.2.1 rfl
    have he : a = iN i := he
    subst he
    rw [oq_1, iN_cl (by omega)] at k
    rw [cOp_1, cOp_2 0]
    exact ap_1 hW hl h hi rfl k
  · obtain ⟨i, hi, he⟩ := hO.2.2 (Or.inl rfl)
    have he : a = iN i := he
    subst he
    obtain ⟨y, w, r, rfl⟩ := two hd
    rw [oq_2, iN_cl (by omega)] at k
    rw [cOp_1, cOp_2 1]
    exact ap_2 hW hM h hi rfl k
  · obtain ⟨y, r, rfl⟩ := one hd
    rw [oq_3] at k
    rw [cOp_1, cOp_2 2]
    exact ap_3 hW h k
  · obtain ⟨y, w, r, rfl⟩ := two hd
    rw [oq_4] at k
    rw [cOp_1, cOp_2 3]
    exact ap_4 hW h k
  · obtain ⟨y, w, r, rfl⟩ := two hd
    rw [oq_5] at k
    rw [cOp_1, cOp_2 4]
    exact ap_5 hW h k
  · obtain ⟨y, w, r, rfl⟩ := two hd
    rw [oq_6] at k
    rw [cOp_1, cOp_2 5]
    exact ap_6 hW h k
  · obtain ⟨y, w, r, rfl⟩ := two hd
    rw [oq_7] at k
    rw [cOp_1, cOp_2 6]
    exact ap_7 hW h k
  · obtain ⟨y, w, r, rfl⟩ := two hd
    rw [oq_8] at k
    rw [cOp_1, cOp_2 7]
    exact ap_8 hW h k
  · obtain ⟨y, r, rfl⟩ := one hd
    rw [oq_9] at k
    rw [cOp_1, cOp_2 8]
    exact ap_9 hW h k
  · obtain ⟨y, r, rfl⟩ := one hd
    rw [oq_10] at k
    rw [cOp_1, cOp_2 9]
    exact ap_10 hW h k
  · obtain ⟨y, r, rfl⟩ := one hd
    rw [oq_11] at k
    rw [cOp_1, cOp_2 10]
    exact ap_11 hW h k
  · obtain ⟨i, hi, he⟩ := hO.2.2 (Or.inr (Or.inl rfl))
    have he : a = iN i := he
    subst he
    rw [oq_12, iN_cl (by omega)] at k
    rw [cOp_1, cOp_2 11]
    refine ap_12 (fd := fun f => (fb f).isSome) hW h hi rfl ?_ k
    rcases hF i hi with ⟨q1, q2⟩ | ⟨v, dd, i', os, q1, q2, q3, q4, q5, q6, q7, q8⟩
    · simp [q1, q2]
    · have : gR A0 10 i ≠ 0 := by omega
      simp [q8, this]
  · obtain ⟨i, hi, he⟩ := hO.2.2 (Or.inr (Or.inr rfl))
    have he : a = iN i := he
    subst he
    obtain ⟨y, r, rfl⟩ := one hd
    rw [oq_13, iN_cl (by omega)] at k
    rw [cOp_1, cOp_2 12]
    exact ap_13 hW h hi rfl (hc i r y hi h k)
end EV6
