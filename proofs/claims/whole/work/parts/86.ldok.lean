/-! what the parser's expressions keep to -/
theorem nfsA {a b : Nat} {P : Prop} (q : a = b) (h : (a == b) = false) : P := absurd q (by simpa using h)
theorem bndI {α β : Type} {r : PR α} {f : Nat → α → PR β} {x : Nat × β} (h : bnd r f = .ok x) : ∃ p a, r = .ok (p, a) ∧ f p a = .ok x := by
  cases r with
  | error q => cases h
  | ok y => exact ⟨y.1, y.2, rfl, h⟩
def PGd (os : List SOp) : Prop := (∀ x, x ∈ os → okO x ∧ NmO x) ∧ (∀ k, dpE os k = some (k + 1)) ∧ ∀ φ, FnE φ os
theorem dpE_app : ∀ (a b : List SOp) (k : Nat), dpE (a ++ b) k = (dpE a k).bind (dpE b)
  | [], b, k => rfl
  | x :: a, b, k => by
    show (dpO x k).bind (dpE (a ++ b)) = ((dpO x k).bind (dpE a)).bind (dpE b)
    cases dpO x k with
    | none => rfl
    | some m => exact dpE_app a b m
theorem FnE_app {φ : Nat → Bool} : ∀ {a b : List SOp}, FnE φ a → FnE φ b → FnE φ (a ++ b)
  | [], _, _, hb => hb
  | _ :: _, _, ha, hb => ⟨ha.1, fun q => FnE_app (ha.2 q) hb⟩
theorem chI {c : Int32} {lo hi : Nat} (h1 : iN lo ≤ c) (h2 : c ≤ iN hi) (hh : hi < 1000) (hlo : lo < 1000) : ∃ m, lo ≤ m ∧ m ≤ hi ∧ c = iN m := by
  have h0 : (0 : Int32) ≤ c := Int32.le_trans (show iN 0 ≤ iN lo by rw [iN_le (by omega) (by omega)]; omega) h1
  have e := iN_of h0
  have hc := Int32.toNatClampNeg_lt c
  generalize c.toNatClampNeg = m at *
  rw [e, iN_le (by omega) hc] at h1
  rw [e, iN_le hc (by omega)] at h2
  exact ⟨m, h1, h2, e⟩
theorem isD_I {c : Int32} (h : isD c = true) : ∃ m, 48 ≤ m ∧ m ≤ 57 ∧ c = iN m := by
  unfold isD at h
  simp only [Bool.and_eq_true, decide_eq_true_eq] at h
  exact chI (lo := 48) (hi := 57) h.1 h.2 (by omega) (by omega)
theorem isM_I {c : Int32} (h : isM c = true) : ∃ m, m < 3 ∧ c - 80 = iN m := by
  unfold isM at h
  simp only [Bool.and_eq_true, decide_eq_true_eq] at h
  obtain ⟨m, h1, h2, e⟩ := chI (lo := 80) (hi := 82) h.1 h.2 (by omega) (by omega)
  exact ⟨m - 80, by omega, by rw [e, show (80 : Int32) = iN 80 from rfl, iN_sub h1]⟩
theorem isV_I {c : Int32} (h : isV c = true) : ∃ m, m < 26 ∧ c - 65 = iN m := by
  unfold isV at h
  simp only [Bool.and_eq_true, decide_eq_true_eq] at h
  obtain ⟨m, h1, h2, e⟩ := chI (lo := 65) (hi := 90) h.1.1 h.1.2 (by omega) (by omega)
  exact ⟨m - 65, by omega, by rw [e, show (65 : Int32) = iN 65 from rfl, iN_sub h1]⟩
theorem isF_I {c : Int32} (h : isF c = true) : ∃ m, m < 3 ∧ c - 65 = iN m := by
  unfold isF at h
  simp only [Bool.and_eq_true, decide_eq_true_eq] at h
  obtain ⟨m, h1, h2, e⟩ := chI (lo := 65) (hi := 67) h.1 h.2 (by omega) (by omega)
  exact ⟨m - 65, by omega, by rw [e, show (65 : Int32) = iN 65 from rfl, iN_sub h1]⟩
section LDO
variable {T : Nat → Int32} {n : Nat}
theorem pDg_val : ∀ (k p v c a : Nat), v < 10 ^ a → ∃ w j, (pDg T n k p (iN v) c).2 = (iN w, c + j) ∧ j ≤ k ∧ w < 10 ^ (a + j)
  | 0, p, v, c, a, h => ⟨v, 0, rfl, Nat.le_refl 0, h⟩
  | k + 1, p, v, c, a, h => by
    unfold pDg
    by_cases hd : isD (chr T n p) = true
    · rw [if_pos hd]
      obtain ⟨m, h1, h2, e⟩ := isD_I hd
      rw [e, show (10 : Int32) = iN 10 from rfl, show (48 : Int32) = iN 48 from rfl, iN_mul, iN_add, iN_sub (by omega)]
      have hp : 10 ^ (a + 1) = 10 ^ a * 10 := Nat.pow_succ 10 a
      obtain ⟨w, j, q1, q2, q3⟩ := pDg_val k (p + 1) (v * 10 + m - 48) (c + 1) (a + 1) (by omega)
      refine ⟨w, j + 1, by rw [q1]; congr 1; omega, by omega, ?_⟩
      rw [show a + (j + 1) = a + 1 + j by omega]; exact q3
    · rw [if_neg hd]
      exact ⟨v, 0, rfl, Nat.zero_le _, h⟩
theorem pNum_ok {p p' : Nat} {v : Int32 × Nat} (h : pNum T n p = .ok (p', v)) : ∃ w, v.1 = iN w ∧ v.2 ≤ 3 ∧ w * 10 ^ (3 - v.2) < 1000000000 := by
  obtain ⟨w6, j6, e6, hj6, hw6⟩ := pDg_val (T := T) (n := n) 6 p 0 0 0 (by decide)
  have hw : w6 < 10 ^ 6 := Nat.lt_of_lt_of_le hw6 (Nat.pow_le_pow_right (by decide) (by omega))
  have e6' : (pDg T n 6 p 0 0).2 = (iN w6, 0 + j6) := e6
  unfold pNum at h
  split at h
  · cases h
  · split at h
    · split at h
      · cases h
      · obtain ⟨w3, j3, e3, hj3, hw3⟩ := pDg_val (T := T) (n := n) 3 ((pDg T n 6 p 0 0).1 + 1) w6 0 6 hw
        have hv := Except.ok.inj h
        have hv2 := congrArg Prod.snd hv
        rw [show (pDg T n 6 p 0 0).2.1 = iN w6 from congrArg Prod.fst e6'] at hv2
        have hv3 : v = (pDg T n 3 ((pDg T n 6 p 0 0).1 + 1) (iN w6) 0).2 := hv2.symm
        rw [hv3, e3]
        refine ⟨w3, rfl, by omega, ?_⟩
        show w3 * 10 ^ (3 - (0 + j3)) < 1000000000
        have hm : w3 * 10 ^ (3 - (0 + j3)) < 10 ^ (6 + j3) * 10 ^ (3 - (0 + j3)) := Nat.mul_lt_mul_of_pos_right hw3 (Nat.pow_pos (by decide))
        rw [← Nat.pow_add, show 6 + j3 + (3 - (0 + j3)) = 9 by omega] at hm
        exact hm
    · have hv := Except.ok.inj h
      have hv2 : v = ((pDg T n 6 p 0 0).2.1, 0) := (congrArg Prod.snd hv).symm
      rw [hv2, show (pDg T n 6 p 0 0).2.1 = iN w6 from congrArg Prod.fst e6']
      refine ⟨w6, rfl, Nat.zero_le 3, ?_⟩
      show w6 * 10 ^ 3 < 1000000000
      omega
def okS (S : PS) : Prop := ∀ p op p' os, S p op = .ok (p', os) → PGd os
theorem PGd_un {os : List SOp} {x : SOp} (h : PGd os) (hx : okO x) (h0 : x.1 = 3 ∨ x.1 = 9 ∨ x.1 = 10 ∨ x.1 = 11) : PGd (os ++ [x]) := by
  obtain ⟨a, b, c⟩ := h
  refine ⟨fun y hy => ?_, fun k => ?_, fun φ => FnE_app (c φ) ⟨fun q => by omega, fun _ => trivial⟩⟩
  · rcases List.mem_append.mp hy with hy | hy
    · exact a y hy
    · rw [List.mem_singleton.mp hy]; exact ⟨hx, fun q => by omega⟩
  · rw [dpE_app, b k]
    show (dpO x (k + 1)).bind (dpE []) = _
    unfold dpO
    rw [if_neg (by omega), if_neg (by omega), if_pos (by omega), if_pos (by omega)]
    rfl
theorem PGd_bin {os qs : List SOp} {x : SOp} (h : PGd os) (g : PGd qs) (hx : okO x) (h0 : x.1 = 2 ∨ (4 ≤ x.1 ∧ x.1 ≤ 8)) : PGd (os ++ qs ++ [x]) := by
  obtain ⟨a, b, c⟩ := h
  obtain ⟨a', b', c'⟩ := g
  refine ⟨fun y hy => ?_, fun k => ?_, fun φ => FnE_app (FnE_app (c φ) (c' φ)) ⟨fun q => by omega, fun _ => trivial⟩⟩
  · rcases List.mem_append.mp hy with hy | hy
    · rcases List.mem_append.mp hy with hy | hy
      · exact a y hy
      · exact a' y hy
    · rw [List.mem_singleton.mp hy]; exact ⟨hx, fun q => by omega⟩
  · rw [dpE_app, dpE_app, b k]
    show ((dpE qs (k + 1)).bind (dpE [x])) = _
    rw [b' (k + 1)]
    show (dpO x (k + 1 + 1)).bind (dpE []) = _
    unfold dpO
    rw [if_neg (by omega), if_neg (by omega), if_neg (by omega), if_pos (by omega)]
    rfl
theorem okO_pl {j : Nat} (h : j < 14) (h1 : j ≠ 1) (h2 : j ≠ 2) (h3 : j ≠ 12) (h4 : j ≠ 13) {a : Int32} {pl : Nat} : okO (j, a, pl) :=
  ⟨h, fun q => absurd q h1, fun q => by
    have q : j = 2 ∨ j = 12 ∨ j = 13 := q
    omega⟩
theorem dBr_ok {S : PS} (hS : okS S) {p op p' : Nat} {os : List SOp} (h : dBr T n S p op = .ok (p', os)) : PGd os := by
  unfold dBr at h
  split at h
  · cases h
  · obtain ⟨p1, _, -, h⟩ := bndI h
    obtain ⟨p2, os', h2, h⟩ := bndI h
    obtain ⟨p3, _, -, h⟩ := bndI h
    have e := congrArg Prod.snd (Except.ok.inj h)
    have e : os' = os := e
    rw [← e]; exact hS _ _ _ _ h2
theorem dCall_ok {S : PS} (hS : okS S) {p op p' : Nat} {os : List SOp} (h : dCall T n S p op = .ok (p', os)) : PGd os := by
  unfold dCall at h
  split at h
  · cases h
  · split at h
    · obtain ⟨p1, _, -, h⟩ := bndI h
      obtain ⟨p2, os', h2, h⟩ := bndI h
      have e : os' ++ [(9, 0, 0)] = os := congrArg Prod.snd (Except.ok.inj h)
      rw [← e]
      exact PGd_un (dBr_ok hS h2) (okO_pl (by omega) (by omega) (by omega) (by omega) (by omega)) (Or.inr (Or.inl rfl))
    · split at h
      · obtain ⟨p1, _, -, h⟩ := bndI h
        obtain ⟨p2, os', h2, h⟩ := bndI h
        have e : os' ++ [(10, 0, 0)] = os := congrArg Prod.snd (Except.ok.inj h)
        rw [← e]
        exact PGd_un (dBr_ok hS h2) (okO_pl (by omega) (by omega) (by omega) (by omega) (by omega)) (Or.inr (Or.inr (Or.inl rfl)))
      · split at h
        · obtain ⟨p1, _, -, h⟩ := bndI h
          obtain ⟨p2, os', h2, h⟩ := bndI h
          have e : os' ++ [(11, 0, 0)] = os := congrArg Prod.snd (Except.ok.inj h)
          rw [← e]
          exact PGd_un (dBr_ok hS h2) (okO_pl (by omega) (by omega) (by omega) (by omega) (by omega)) (Or.inr (Or.inr (Or.inr rfl)))
        · obtain ⟨p1, _, -, h⟩ := bndI h
          split at h
          · cases h
          · rename_i hf
            obtain ⟨p2, os', h2, h⟩ := bndI h
            have hf : isF (chr T n p1) = true := by simpa using hf
            obtain ⟨m, hm, em⟩ := isF_I hf
            have e : (12, chr T n p1 - 65, 0) :: os' ++ [(13, chr T n p1 - 65, 0)] = os := congrArg Prod.snd (Except.ok.inj h)
            rw [← e, em]
            obtain ⟨a, b, c⟩ := dBr_ok hS h2
            have o12 : okO (12, iN m, 0) := ⟨by show 12 < 14; omega, fun q => nfsA q rfl, fun _ => ⟨m, hm, rfl⟩⟩
            have o13 : okO (13, iN m, 0) := ⟨by show 13 < 14; omega, fun q => nfsA q rfl, fun _ => ⟨m, hm, rfl⟩⟩
            refine ⟨fun y hy => ?_, fun k => ?_, fun φ => ⟨fun q => nfsA q rfl, fun q => FnE_app (c φ) ⟨fun _ => q rfl, fun _ => trivial⟩⟩⟩
            · rw [List.cons_append] at hy
              rcases List.mem_cons.mp hy with hy | hy
              · rw [hy]; exact ⟨o12, fun q => nfsA q rfl⟩
              · rcases List.mem_append.mp hy with hy | hy
                · exact a y hy
                · rw [List.mem_singleton.mp hy]; exact ⟨o13, fun q => nfsA q rfl⟩
            · show dpE (os' ++ [(13, iN m, 0)]) k = _
              rw [dpE_app, b k]
              rfl
theorem dPart_ok {S : PS} {on : Bool} (hS : okS S) {p op p' : Nat} {os : List SOp} (h : dPart T n on S p op = .ok (p', os)) : PGd os := by
  unfold dPart at h
  split at h
  · obtain ⟨p1, v, h1, h⟩ := bndI h
    have e : [(0, v.1, v.2)] = os := congrArg Prod.snd (Except.ok.inj h)
    rw [← e]
    refine ⟨fun y hy => ?_, fun k => rfl, fun φ => ⟨fun q => nfsA q rfl, fun _ => trivial⟩⟩
    rw [List.mem_singleton.mp hy]
    exact ⟨okO_pl (by omega) (by omega) (by omega) (by omega) (by omega), fun _ => pNum_ok h1⟩
  · split at h
    · exact dBr_ok hS h
    · split at h
      · rename_i hm
        obtain ⟨m, hm3, em⟩ := isM_I hm
        unfold dEl at h
        split at h
        · cases h
        · obtain ⟨p1, _, -, h⟩ := bndI h
          obtain ⟨p2, o1, h2, h⟩ := bndI h
          obtain ⟨p3, _, -, h⟩ := bndI h
          obtain ⟨p4, o2, h4, h⟩ := bndI h
          obtain ⟨p5, _, -, h⟩ := bndI h
          have e : o1 ++ o2 ++ [(2, chr T n p - 80, 0)] = os := congrArg Prod.snd (Except.ok.inj h)
          rw [← e, em]
          exact PGd_bin (hS _ _ _ _ h2) (hS _ _ _ _ h4) ⟨by show 2 < 14; omega, fun q => nfsA q rfl, fun _ => ⟨m, hm3, rfl⟩⟩ (Or.inl rfl)
      · split at h
        · exact dCall_ok hS h
        · split at h
          · rename_i hv
            obtain ⟨m, hm, em⟩ := isV_I hv
            have e : [(1, chr T n p - 65, 0)] = os := congrArg Prod.snd (Except.ok.inj h)
            rw [← e, em]
            refine ⟨fun y hy => ?_, fun k => rfl, fun φ => ⟨fun q => nfsA q rfl, fun _ => trivial⟩⟩
            rw [List.mem_singleton.mp hy]
            exact ⟨⟨by show 1 < 14; omega, fun _ => ⟨m, hm, rfl⟩, fun q => q.elim (fun q => nfsA q rfl) (fun q => q.elim (fun q => nfsA q rfl) (fun q => nfsA q rfl))⟩, fun q => nfsA q rfl⟩
          · cases h
theorem dPowL_ok {S : PS} {on : Bool} (hS : okS S) : ∀ (k p op : Nat) (acc : List SOp) (p' : Nat) (os : List SOp), PGd acc → dPowL T n on S k p op acc = .ok (p', os) → PGd os
  | 0, p, op, acc, p', os, ha, h => by
    rw [← show acc = os from congrArg Prod.snd (Except.ok.inj h)]; exact ha
  | k + 1, p, op, acc, p', os, ha, h => by
    unfold dPowL at h
    split at h
    · obtain ⟨p1, o1, h1, h⟩ := bndI h
      exact dPowL_ok hS k p1 op _ p' os (PGd_bin ha (dPart_ok hS h1) (okO_pl (by omega) (by omega) (by omega) (by omega) (by omega)) (Or.inr ⟨by show 4 ≤ 8; omega, Nat.le_refl 8⟩)) h
    · rw [← show acc = os from congrArg Prod.snd (Except.ok.inj h)]; exact ha
theorem dPow_ok {S : PS} {on : Bool} (hS : okS S) {p op p' : Nat} {os : List SOp} (h : dPow T n on S p op = .ok (p', os)) : PGd os := by
  unfold dPow at h
  obtain ⟨p1, o1, h1, h⟩ := bndI h
  exact dPowL_ok hS 60 p1 op o1 p' os (dPart_ok hS h1) h
theorem dPrL_ok {S : PS} {on : Bool} (hS : okS S) : ∀ (k p op : Nat) (acc : List SOp) (p' : Nat) (os : List SOp), PGd acc → dPrL T n on S k p op acc = .ok (p', os) → PGd os
  | 0, p, op, acc, p', os, ha, h => by
    rw [← show acc = os from congrArg Prod.snd (Except.ok.inj h)]; exact ha
  | k + 1, p, op, acc, p', os, ha, h => by
    unfold dPrL at h
    split at h
    · obtain ⟨p1, o1, h1, h⟩ := bndI h
      refine dPrL_ok hS k p1 op _ p' os (PGd_bin ha (dPow_ok hS h1) ?_ ?_) h
      · split <;> exact okO_pl (by omega) (by omega) (by omega) (by omega) (by omega)
      · refine Or.inr ?_
        show 4 ≤ (if chr T n p = 42 then 6 else 7) ∧ (if chr T n p = 42 then 6 else 7) ≤ 8
        split <;> omega
    · rw [← show acc = os from congrArg Prod.snd (Except.ok.inj h)]; exact ha
theorem dPr_ok {S : PS} {on : Bool} (hS : okS S) {p op p' : Nat} {os : List SOp} (h : dPr T n on S p op = .ok (p', os)) : PGd os := by
  unfold dPr at h
  obtain ⟨p1, o1, h1, h⟩ := bndI h
  exact dPrL_ok hS 60 p1 op o1 p' os (dPow_ok hS h1) h
theorem dSumL_ok {S : PS} {on : Bool} (hS : okS S) : ∀ (k p op : Nat) (acc : List SOp) (p' : Nat) (os : List SOp), PGd acc → dSumL T n on S k p op acc = .ok (p', os) → PGd os
  | 0, p, op, acc, p', os, ha, h => by
    rw [← show acc = os from congrArg Prod.snd (Except.ok.inj h)]; exact ha
  | k + 1, p, op, acc, p', os, ha, h => by
    unfold dSumL at h
    split at h
    · obtain ⟨p1, o1, h1, h⟩ := bndI h
      refine dSumL_ok hS k p1 op _ p' os (PGd_bin ha (dPr_ok hS h1) ?_ ?_) h
      · split <;> exact okO_pl (by omega) (by omega) (by omega) (by omega) (by omega)
      · refine Or.inr ?_
        show 4 ≤ (if chr T n p = 43 then 4 else 5) ∧ (if chr T n p = 43 then 4 else 5) ≤ 8
        split <;> omega
    · rw [← show acc = os from congrArg Prod.snd (Except.ok.inj h)]; exact ha
theorem dSum_ok (on : Bool) : ∀ d, okS (dSum T n on d)
  | 0 => fun p op p' os h => by cases h
  | d + 1 => fun p op p' os h => by
    have hS := dSum_ok on d
    have h : dSumB T n on (dSum T n on d) p op = .ok (p', os) := h
    unfold dSumB at h
    split at h
    · obtain ⟨p1, o1, h1, h⟩ := bndI h
      exact dSumL_ok hS 60 p1 op _ p' os (PGd_un (dPr_ok hS h1) (okO_pl (by omega) (by omega) (by omega) (by omega) (by omega)) (Or.inl rfl)) h
    · obtain ⟨p1, o1, h1, h⟩ := bndI h
      exact dSumL_ok hS 60 p1 op _ p' os (dPr_ok hS h1) h
end LDO
