section EV7
variable {A0 : Mem} {mr mc : Nat → Nat} {fb : Nat → Option (Nat × List SOp)}
theorem us_back (va : Nat → UInt64) (i : Nat) (x : UInt64) : us (us va i x) i (va i) = va := funext fun j => by
  by_cases h : j = i
  · rw [h, us_eq]
  · rw [us_ne h, us_ne h]
theorem LG_3 {v : Int32} {dd : LDT} {s : Nat → Int32} {q : Nat → Nat} (h : LG v dd s q) (hd : dd.1 = 13) : s 3 = dd.2.1 := by
  have := h.2.2.2.1 (by omega)
  rw [this, if_neg]
  unfold isEl
  rw [hd, show ((13:Nat) == 0 || (13:Nat) == 9) = false from rfl, Bool.false_and]
  exact (by decide)
/-- a call, given what its body's working out does -/
theorem n_call {A : Mem} {va : Nat → UInt64} {base r : List UInt64} {u : UInt64} {f d : Nat} {K : Mem → Prop} {S : Nat → Nat → Int32 → Int32 → Mem → (UInt64 → Mem → Prop) → Prop} {ca : Nat → UInt64 → EV} (hW : WC A0) (hF : FbA A0 fb) (hf : f < 3) (hd : d ≤ 3) (h : EvS A0 va (u :: r ++ base) 0 A)
    (hS : ∀ (i : Nat) (os : List SOp) (v : Int32) (dd : LDT) (A1 : Mem) (K1 : UInt64 → Mem → Prop) (d' : Nat), d = d' + 1 → fb f = some (i, os) → GdE os → CLv A0 (gR A0 10 f) v dd → 100 ≤ gR A0 10 f → gR A0 10 f < 125 → dd.2.2.2.2.1[0]? = some os → EvS A0 (us va i u) (r ++ base) 0 A1 → oKV A0 (us va i u) (r ++ base) (ca f u) K1 → S 8 (gR A0 10 f) 0 (iN (3 - d')) A1 K1)
    (hc0 : d = 0 → ca f u = match fb f with | none => .error 3 | some _ => .error 2)
    (hcn : fb f = none → ca f u = .error 3)
    (k : oKS A0 va base (psE r (ca f u)) K) : wp_Ca_callFunction S 8 (gR A0 10 f) (iN (3 - d)) A K := by
  have hl := h.2.2.1.2.1
  simp only [List.cons_append, List.length_cons] at hl
  unfold wp_Ca_callFunction
  refine ⟨rfl, n_pop (s := r ++ base) hW h (fun hu A1 h1 => ?_)⟩
  rw [show (3 : Int32) = iN 3 from rfl, iN_lt (by omega) (by omega)]
  rcases hF f hf with ⟨q1, q2⟩ | ⟨v, dd, i, os, q1, q2, q3, q4, q5, q6, q7, q8⟩
  · rw [hcn q2] at k
    refine ⟨fun q => absurd q1 q, fun _ => n_fail h1 (f := 3) (by omega) (fun A2 h2 => k.2 3 rfl (by decide) _ A2 h2)⟩
  · refine ⟨fun _ => ⟨fun hlt => ?_, fun hge => ?_⟩, fun q => by omega⟩
    · obtain ⟨d', rfl⟩ : ∃ d', d = d' + 1 := ⟨d - 1, by omega⟩
      have q1' := q1
      obtain ⟨s0, q0, hlg, hs, -⟩ := q1
      have e3 : ∀ B, gI B (gR A0 10 f) = gI A0 (gR A0 10 f) → gI B (gR A0 10 f) 3 = iN i := fun B hB => by
        rw [hB, hs.1 3 (by omega) (by omega) (by omega), LG_3 hlg q3, q4]
      refine ⟨kdL q2.1 q2.2, ?_⟩
      rw [e3 A1 (h1.1.2.1 _ (by omega))]
      refine n_get26 hW h1 q5 ?_
      rw [e3 A1 (h1.1.2.1 _ (by omega))]
      refine n_set26 hW h1 q5 hu (fun A2 h2 => ?_)
      rw [show iN (3 - (d' + 1)) + 1 = iN (3 - d') by rw [iN_1]; congr 1; omega]
      refine hS i os v dd A2 _ d' rfl q8 q7 q1' q2.1 q2.2 q6 h2 ⟨fun w hw A3 ho h3 => ?_, fun g hg g0 w s' A3 ho h3 => ?_⟩
      · show wp_Ca_set 8 (gI A3 (gR A0 10 f) 3) (va i) A3 _
        rw [e3 A3 (h3.1.2.1 _ (by omega))]
        refine n_set26 hW h3 q5 (h1.2.2.2 i) (fun A4 h4 => ?_)
        rw [us_back] at h4
        rw [hw] at k
        exact n_push hW h4 ho (by omega) (fun A5 h5 => k.1 _ rfl A5 h5)
      · show wp_Ca_set 8 (gI A3 (gR A0 10 f) 3) (va i) A3 _
        rw [e3 A3 (h3.1.2.1 _ (by omega))]
        refine n_set26 hW h3 q5 (h1.2.2.2 i) (fun A4 h4 => ?_)
        rw [us_back] at h4
        rw [hg] at k
        exact n_pushA hW h4 ho (fun s2 A5 h5 => k.2 g rfl g0 s2 A5 h5)
    · rw [hc0 (by omega), q8] at k
      exact n_fail h1 (f := 2) (by omega) (fun A2 h2 => k.2 2 rfl (by decide) _ A2 h2)
/-- the callee of a level -/
def caL (fb : Nat → Option (Nat × List SOp)) (el : Nat → UInt64 → UInt64 → EV) : Nat → (Nat → UInt64) → Nat → UInt64 → EV
  | 0, _, f, _ => match fb f with
    | none => .error 3
    | some _ => .error 2
  | d + 1, va, f, x => match fb f with
    | none => .error 3
    | some b => evL fb el d (us va b.1 x) b.2
theorem evL_ca (fb : Nat → Option (Nat × List SOp)) (el : Nat → UInt64 → UInt64 → EV) (d : Nat) (va : Nat → UInt64) (os : List SOp) : evL fb el d va os = evE va el (fun f => (fb f).isSome) (caL fb el d va) os [] := by
  cases d <;> rfl
theorem caL_ne {el : Nat → UInt64 → UInt64 → EV} (hel : ∀ m u w, el m u w ≠ .error 0) (hfb : ∀ f b, fb f = some b → GdE b.2) (d : Nat) (va : Nat → UInt64) (f : Nat) (u : UInt64) : caL fb el d va f u ≠ .error 0 := by
  cases d with
  | zero =>
    show (match fb f with | none => _ | some _ => _) ≠ _
    cases fb f with
    | none => intro q; cases q
    | some b => intro q; cases q
  | succ d =>
    show (match fb f with | none => _ | some _ => _) ≠ _
    cases hf : fb f with
    | none => intro q; cases q
    | some b => exact evL_dp hel hfb d _ _ (hfb f b hf)
/-- the class's loop over an expression's operations -/
theorem n_evLoop {S : Nat → Nat → Int32 → Int32 → Mem → (UInt64 → Mem → Prop) → Prop} {va : Nat → UInt64} {base : List UInt64} {L st k : Nat} {v p3 : Int32} {dd : LDT} {os : List SOp} {ca : Nat → UInt64 → EV} {K : UInt64 → Mem → Prop} (hW : WC A0) (hM : MxA A0 mr mc) (hF : FbA A0 fb) (hL : 100 ≤ L) (hL2 : L < 125) (hC : CLv A0 L v dd) (he : dd.2.2.2.2.1[k]? = some os) (hst : st = (dd.2.2.2.2.1.take k).flatten.length) (hG : ∀ x, x ∈ os → okO x)
    (hca : ∀ f u, ca f u ≠ .error 0)
    (hc : ∀ f r u B K1, f < 3 → r.length + 1 ≤ os.length → EvS A0 va (u :: r ++ base) 0 B → oKS A0 va base (psE r (ca f u)) K1 → wp_Ca_callFunction S 8 (gR A0 10 f) p3 B K1) (hroom : os.length + base.length ≤ 240) :
    ∀ (j i fu : Nat) (s : List UInt64) (A : Mem), i + j = os.length → j < fu → s.length ≤ i → dpE (os.drop i) s.length = some 1 → EvS A0 va (s ++ base) 0 A → oKV A0 va base (evE va (elA A0 mr mc) (fun f => (fb f).isSome) ca (os.drop i) s) K → wp_Ca_evaluateB_c22 S K fu 8 L p3 (iN (st + os.length)) (iN (st + i)) A := by
  have hlen : (cOs dd.2.2.2.2.1).length ≤ 60 := by obtain ⟨_, _, _, _, _, h12, _⟩ := hC; exact h12.2.1
  have hst2 : st + os.length ≤ 60 := by
    have h1 := tk_len _ k os he
    have h2 := tk_le dd.2.2.2.2.1 (k + 1)
    have h3 : (cOs dd.2.2.2.2.1).length = dd.2.2.2.2.1.flatten.length := List.length_map _
    omega
  intro j
  induction j with
  | zero =>
    intro i fu s A hi hfu hs hd h kk
    obtain ⟨fu, rfl⟩ : ∃ g, fu = g + 1 := ⟨fu - 1, by omega⟩
    rw [List.drop_eq_nil_of_le (by omega)] at hd kk
    obtain ⟨x, rfl⟩ : ∃ x, s = [x] := by
      have hd := Option.some.inj hd
      cases s with
      | nil => simp at hd
      | cons x s =>
        cases s with
        | nil => exact ⟨x, rfl⟩
        | cons y s => simp at hd
    unfold wp_Ca_evaluateB_c22
    rw [iN_le (by omega) (by omega)]
    exact ⟨fun _ => ⟨rfl, n_pop (s := base) hW h (fun hx A1 h1 => kk.1 x rfl A1 hx h1)⟩, fun q => by omega⟩
  | succ j ih =>
    intro i fu s A hi hfu hs hd h kk
    obtain ⟨fu, rfl⟩ : ∃ g, fu = g + 2 := ⟨fu - 2, by omega⟩
    have hi2 : i < os.length := by omega
    rw [List.drop_eq_getElem_cons hi2] at hd kk
    have hx : os[i]? = some os[i] := List.getElem?_eq_getElem hi2
    have hcell := flt_get _ k os i _ he hx
    have hO := hG os[i] (List.getElem_mem hi2)
    generalize os[i] = x at *
    unfold dpE at hd
    cases hdx : dpO x s.length with
    | none => rw [hdx] at hd; cases hd
    | some n =>
      rw [hdx] at hd
      have hdp := opE_dp (va := va) (fd := fun f => (fb f).isSome) hO hdx (elA_ne (A := A0) (mr := mr) (mc := mc)) hca
      have hC' := CLv_Ev hL h hC
      have hW' := WC_Ev hW h
      obtain ⟨s0, q0, hlg, hs1, hs2, hs3, hs4⟩ := hC'
      have e10 : gI A (L + 60) (st + i) = (cOp x).1 ∧ gI A (L + 90) (st + i) = (cOp x).2 := by
        have h5 := hs3.2.2 (st + i) (cOp x) (by rw [hst]; exact hcell)
        rw [← h5]; exact ⟨rfl, rfl⟩
      have ek : kd (L + 60) = 51 ∧ al (L + 60) = 60 ∧ kd (L + 90) = 51 ∧ al (L + 90) = 60 := by
        unfold kd al
        rw [if_neg (by omega), if_neg (by omega), if_neg (by omega), if_neg (by omega), if_neg (by omega), if_neg (by omega), if_pos (by omega), if_neg (by omega), if_neg (by omega), if_neg (by omega), if_pos (by omega)]
        rw [if_neg (by omega), if_neg (by omega), if_neg (by omega), if_neg (by omega), if_neg (by omega), if_neg (by omega), if_neg (by omega), if_neg (by omega), if_pos (by omega), if_neg (by omega), if_neg (by omega), if_neg (by omega), if_pos (by omega)]
        exact ⟨rfl, rfl, rfl, rfl⟩
      unfold wp_Ca_evaluateB_c22
      rw [iN_le (by omega) (by omega)]
      refine ⟨fun q => by omega, fun _ => ⟨rfl, n_fine h (fun _ => ⟨fun q => (by cases q), fun _ => ?_⟩) (fun q => absurd rfl q)⟩⟩
      obtain ⟨w1, w2, w3, w4⟩ := hW'.2.2.2.2.2 L hL hL2
      rw [w2, w3, ek.2.1, ek.2.2.2, iN_cl (by omega), e10.1, e10.2]
      refine ⟨kdL hL hL2, ek.1, iN_in (by omega) (by omega), ek.2.2.1, iN_in (by omega) (by omega), ?_⟩
      have hl2 : (s ++ base).length < 240 := by rw [List.length_append]; omega
      refine n_apply (n := n) hW hM hF hO hdx hl2 h (fun f r u hf hb hk => hc f r u A _ hf ?_ hb hk) ?_
      · have := h.2.2.1.1
        have h6 := hb.2.2.1.1
        have h7 := hb.2.2.1.2.1
        rw [this, iN_eq (by have := h.2.2.1.2.1; omega) (by omega)] at h6
        simp only [List.cons_append, List.length_cons, List.length_append] at h6
        omega
      · refine ⟨fun l hl A1 h1 => ?_, fun f hf f0 s' A1 h1 => ?_⟩
        · have hln := hdp.2 l hl
          unfold evE at kk
          rw [hl] at kk
          rw [iN_1, Nat.add_assoc]
          have hn : n ≤ s.length + 1 := by
            unfold dpO at hdx
            repeat' split at hdx
            all_goals first | (have := Option.some.inj hdx; omega) | (cases hdx)
          exact ih (i + 1) (fu + 1) l A1 (by omega) (by omega) (by omega) (by rw [hln]; exact hd) h1 kk
        · unfold evE at kk
          rw [hf] at kk
          exact n_evA hW f0 h1 (fun w s2 A2 hw h2 => kk.2 f rfl f0 w s2 A2 hw h2)
theorem FbA_ok (hF : FbA A0 fb) (h3 : ∀ f, 3 ≤ f → fb f = none) : ∀ f b, fb f = some b → GdE b.2 := by
  intro f b hb
  by_cases hf : f < 3
  · rcases hF f hf with ⟨q1, q2⟩ | ⟨v, dd, i, os, q1, q2, q3, q4, q5, q6, q7, q8⟩
    · rw [q2] at hb; cases hb
    · rw [q8] at hb
      rw [← Option.some.inj hb]; exact q7
  · rw [h3 f (by omega)] at hb; cases hb
/-- an expression's value in the class -/
theorem n_eval (hW : WC A0) (hM : MxA A0 mr mc) (hF : FbA A0 fb) (h3 : ∀ f, 3 ≤ f → fb f = none) :
    ∀ (d : Nat), d ≤ 3 → ∀ (fu : Nat), d < fu → ∀ (A : Mem) (va : Nat → UInt64) (base : List UInt64) (L k : Nat) (v : Int32) (dd : LDT) (os : List SOp) (K : UInt64 → Mem → Prop),
      EvS A0 va base 0 A → CLv A0 L v dd → 100 ≤ L → L < 125 → dd.2.2.2.2.1[k]? = some os → GdE os → base.length + 60 * (d + 1) ≤ 240 →
      oKV A0 va base (evL fb (elA A0 mr mc) d va os) K → wp_Ca_evaluate fu 8 L (iN k) (iN (3 - d)) A K := by
  intro d
  induction d with
  | zero =>
    intro hd3 fu hfu A va base L k v dd os K h hC hL hL2 he hG hr kk
    obtain ⟨fu, rfl⟩ : ∃ g, fu = g + 1 := ⟨fu - 1, by omega⟩
    show wp_Ca_evaluateB (wp_Ca_evaluate fu) 8 L (iN k) (iN (3 - 0)) A K
    have hC' := CLv_Ev hL h hC
    have hW' := WC_Ev hW h
    rw [evL_ca] at kk
    have h60 : (dd.2.2.2.2.1.take (k + 1)).flatten.length ≤ 60 := by
      have h2 := tk_le dd.2.2.2.2.1 (k + 1)
      have h4 : (cOs dd.2.2.2.2.1).length = dd.2.2.2.2.1.flatten.length := List.length_map _
      obtain ⟨_, _, _, _, _, h12, _⟩ := hC
      have := h12.2.1
      omega
    unfold wp_Ca_evaluateB
    refine ⟨kdL hL hL2, n_endOf hL hL2 hW' hC' he ?_⟩
    rw [(hW'.2.2.2.2.2 L hL hL2).2.1]
    have ek : kd (L + 60) = 51 ∧ al (L + 60) = 60 := by
      unfold kd al
      rw [if_neg (by omega), if_neg (by omega), if_neg (by omega), if_neg (by omega), if_neg (by omega), if_neg (by omega), if_pos (by omega), if_neg (by omega), if_neg (by omega), if_neg (by omega), if_pos (by omega)]
      exact ⟨rfl, rfl⟩
    rw [ek.2, show Int32.ofNat 60 = iN 60 from rfl, if_neg (by rw [iN_lt (by omega) (by omega)]; omega)]
    refine ⟨ek.1, n_startOf hL hL2 hW' hC' he ?_⟩
    have hn := tk_len _ k os he
    refine ⟨os.length + 1, ?_⟩
    rw [hn, show iN (dd.2.2.2.2.1.take k).flatten.length = iN ((dd.2.2.2.2.1.take k).flatten.length + 0) from rfl]
    refine n_evLoop (base := base) hW hM hF hL hL2 hC he rfl hG.1 (caL_ne elA_ne (FbA_ok hF h3) 0 va) (fun f r u B K1 hf hlr hB hk => ?_) (by have := hG.2.1; omega) os.length 0 _ [] A (by omega) (by omega) (Nat.le_refl 0) hG.2.2 h kk
    exact n_call (d := 0) hW hF hf (by omega) hB (fun i os' v' dd' A1 K1 d' hd' => by omega) (fun _ => rfl) (fun q => by show (match fb f with | none => _ | some _ => _) = _; rw [q]) hk
  | succ d ih =>
    intro hd3 fu hfu A va base L k v dd os K h hC hL hL2 he hG hr kk
    obtain ⟨fu, rfl⟩ : ∃ g, fu = g + 1 := ⟨fu - 1, by omega⟩
    show wp_Ca_evaluateB (wp_Ca_evaluate fu) 8 L (iN k) (iN (3 - (d + 1))) A K
    have hC' := CLv_Ev hL h hC
    have hW' := WC_Ev hW h
    rw [evL_ca] at kk
    have h60 : (dd.2.2.2.2.1.take (k + 1)).flatten.length ≤ 60 := by
      have h2 := tk_le dd.2.2.2.2.1 (k + 1)
      have h4 : (cOs dd.2.2.2.2.1).length = dd.2.2.2.2.1.flatten.length := List.length_map _
      obtain ⟨_, _, _, _, _, h12, _⟩ := hC
      have := h12.2.1
      omega
    unfold wp_Ca_evaluateB
    refine ⟨kdL hL hL2, n_endOf hL hL2 hW' hC' he ?_⟩
    rw [(hW'.2.2.2.2.2 L hL hL2).2.1]
    have ek : kd (L + 60) = 51 ∧ al (L + 60) = 60 := by
      unfold kd al
      rw [if_neg (by omega), if_neg (by omega), if_neg (by omega), if_neg (by omega), if_neg (by omega), if_neg (by omega), if_pos (by omega), if_neg (by omega), if_neg (by omega), if_neg (by omega), if_pos (by omega)]
      exact ⟨rfl, rfl⟩
    rw [ek.2, show Int32.ofNat 60 = iN 60 from rfl, if_neg (by rw [iN_lt (by omega) (by omega)]; omega)]
    refine ⟨ek.1, n_startOf hL hL2 hW' hC' he ?_⟩
    have hn := tk_len _ k os he
    refine ⟨os.length + 1, ?_⟩
    rw [hn, show iN (dd.2.2.2.2.1.take k).flatten.length = iN ((dd.2.2.2.2.1.take k).flatten.length + 0) from rfl]
    refine n_evLoop (base := base) hW hM hF hL hL2 hC he rfl hG.1 (caL_ne elA_ne (FbA_ok hF h3) (d + 1) va) (fun f r u B K1 hf hlr hB hk => ?_) (by have := hG.2.1; omega) os.length 0 _ [] A (by omega) (by omega) (Nat.le_refl 0) hG.2.2 h kk
    refine n_call (d := d + 1) hW hF hf (by omega) hB (fun i os' v' dd' A1 K1 d' hd' hfb hG' hC1 hL1 hL3 he1 h1 hk1 => ?_) (fun q => by omega) (fun q => by show (match fb f with | none => _ | some _ => _) = _; rw [q]) hk
    have hd2 : d' = d := by omega
    subst hd2
    refine ih (by omega) fu (by omega) A1 _ _ (gR A0 10 f) 0 v' dd' os' K1 h1 hC1 hL1 hL3 he1 hG' ?_ ?_
    · have := hG.2.1
      rw [List.length_append]; omega
    · have e : caL fb (elA A0 mr mc) (d' + 1) va f u = evL fb (elA A0 mr mc) d' (us va i u) os' := by
        show (match fb f with | none => _ | some b => _) = _
        rw [hfb]
      rw [← e]; exact hk1
end EV7
