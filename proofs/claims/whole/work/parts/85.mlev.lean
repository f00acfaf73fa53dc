/-- how many rounds an operation may need -/
def gcF : Nat → Nat
  | 0 => 1
  | d + 1 => 60 * gcF d + 2
theorem dpE_len : ∀ (os : List SOp) (n : Nat), dpE os n = some 1 → n ≤ os.length + 1
  | [], n, h => by rw [Option.some.inj h]; simp
  | x :: r, n, h => by
    unfold dpE at h
    cases hx : dpO x n with
    | none => rw [hx] at h; cases h
    | some m =>
      rw [hx] at h
      have h1 := dpE_len r m h
      have h2 : n ≤ m + 1 := by
        unfold dpO at hx
        repeat' split at hx
        all_goals first | (have := Option.some.inj hx; omega) | (cases hx)
      simp only [List.length_cons]; omega
theorem dpO_le {x : SOp} {n m : Nat} (h : dpO x n = some m) : m ≤ n + 1 := by
  unfold dpO at h
  repeat' split at h
  all_goals first | (have := Option.some.inj h; omega) | (cases h)
theorem VrM_us {va vm : Nat → UInt64} {i : Nat} {u u' : UInt64} (h : VrM va vm) (hd : dz u u') (ho : okd u) : VrM (us va i u) (us vm i u') := fun j hj => by
  by_cases e : j = i
  · rw [e, us_eq, us_eq]; exact ⟨hd, ho⟩
  · rw [us_ne e, us_ne e]; exact h j hj
theorem opE_dpl {va : Nat → UInt64} {el : Nat → UInt64 → UInt64 → EV} {fd : Nat → Bool} {ca : Nat → UInt64 → EV} {x : SOp} {s : List UInt64} {n : Nat} (hO : okO x) (hd : dpO x s.length = some n) : ∀ l, opE va el fd ca x s = .ok l → l.length = n := by
  intro l hl
  have key : opE va (fun m u w => match el m u w with | .ok v => .ok v | .error _ => .error 1) fd (fun f u => match ca f u with | .ok v => .ok v | .error _ => .error 1) x s = .ok l := by
    obtain ⟨j, a, pl⟩ := x
    have hj : j < 14 := hO.1
    have e : j = 2 ∨ j = 13 ∨ (j ≠ 2 ∧ j ≠ 13) := by omega
    rcases e with e | e | ⟨e1, e2⟩
    · subst e
      cases s with
      | nil => cases hl
      | cons y s =>
        cases s with
        | nil => cases hl
        | cons w r =>
          rw [oq_2] at hl ⊢
          cases he : el a.toNatClampNeg w y with
          | error f => rw [he] at hl; cases hl
          | ok v => rw [he] at hl; exact hl
    · subst e
      cases s with
      | nil => cases hl
      | cons y s =>
        rw [oq_13] at hl ⊢
        cases he : ca a.toNatClampNeg y with
        | error f => rw [he] at hl; cases hl
        | ok v => rw [he] at hl; exact hl
    · have e : j = 0 ∨ j = 1 ∨ j = 3 ∨ j = 4 ∨ j = 5 ∨ j = 6 ∨ j = 7 ∨ j = 8 ∨ j = 9 ∨ j = 10 ∨ j = 11 ∨ j = 12 := by omega
      rcases e with e | e | e | e | e | e | e | e | e | e | e | e <;> subst e <;> exact hl
  refine (opE_dp (va := va) (fd := fd) hO hd (fun m u w => ?_) (fun f u => ?_)).2 l key
  · cases el m u w with
    | error f => intro q; cases q
    | ok v => intro q; cases q
  · cases ca f u with
    | error f => intro q; cases q
    | ok v => intro q; cases q
section MLV
variable {A0 : Mem} {mr mc : Nat → Nat} {el : Nat → UInt64 → UInt64 → EV} {fb : Nat → Option (Nat × List SOp)}
/-- what a level owes at its end -/
def LvK (A0 : Mem) (vm : Nat → UInt64) (cs : CSt) (base : List UInt64) (e : EV) (pe N0 : Nat) (K : UInt64 → Mem → Prop) : Prop :=
  (∀ v, e = .ok v → ∀ g v' A', N0 ≤ g → dz v v' → okd v → EvM A0 vm (v' :: base) cs 0 A' → wp_Mo_work_c12 K g 250 (iN pe) A') ∧
  (∀ f, e = .error f → f ≠ 0 → ∀ g st' A' cs' vm' q, 1 ≤ g → unw vm' cs' = unw vm cs → EvM A0 vm' st' cs' f A' → wp_Mo_work_c12 K g 250 q A')
def HcM (A0 : Mem) (fb : Nat → Option (Nat × List SOp)) (el : Nat → UInt64 → UInt64 → EV) (K : UInt64 → Mem → Prop) (d : Nat) : Prop :=
  ∀ (f k i' p' : Nat) (os' : List SOp) (vm va : Nat → UInt64) (cs : CSt) (s' base t : List UInt64) (u u' : UInt64) (A : Mem) (q N1 fu : Nat), f < 3 →
    (k < 24 ∧ gI A0 268 f = iN k ∧ gI A0 255 (k * 8 + 1) = iN i' ∧ i' < 26 ∧ gI A0 256 (k * 4) = iN p' ∧ CdM A0 p' os' ∧ GdE os' ∧ (∀ x, x ∈ os' → NmO x) ∧ (∀ φ, FnE φ os') ∧ fb f = some (i', os')) →
    VrM va vm → dz u u' → okd u → dzL s' base t → EvM A0 vm (u' :: t) cs 0 A → cs.length = 3 - d → t.length + 31 * d ≤ 190 → q < 4000 → 1 ≤ N1 → N1 + gcF d ≤ fu + 1 →
    (∀ v, psE s' (caL fb el d va f u) = .ok v → ∀ g st' A', N1 ≤ g → dzL v base st' → EvM A0 vm st' cs 0 A' → wp_Mo_work_c12 K g 250 (iN q) A') →
    (∀ e, psE s' (caL fb el d va f u) = .error e → e ≠ 0 → ∀ g st' A' cs' vm' q', 1 ≤ g → unw vm' cs' = unw vm cs → EvM A0 vm' st' cs' e A' → wp_Mo_work_c12 K g 250 q' A') →
    wp_Mo_call 250 (iN f) (iN q) A (fun r A' => wp_Mo_work_c12 K fu 250 r A')
theorem gcF_pos : ∀ d, 1 ≤ gcF d
  | 0 => Nat.le_refl 1
  | d + 1 => by unfold gcF; omega
theorem m_levX {K : UInt64 → Mem → Prop} {d : Nat} (hd3 : d ≤ 3) (hW : MW A0) (hE : ElM A0 mr mc el) (hF : FbM A0 fb) (HC : HcM A0 fb el K d) :
    ∀ (os : List SOp) (p N0 fu i : Nat) (vm va : Nat → UInt64) (st : List UInt64) (cs : CSt) (s base : List UInt64) (A : Mem),
      (∀ x, x ∈ os → okO x ∧ NmO x) → dpE os s.length = some 1 → s.length ≤ i → i + os.length ≤ 60 → FnE (fun f => (fb f).isSome) os → base.length + 31 * (d + 1) ≤ 190 → cs.length = 3 - d → 1 ≤ N0 → os.length * gcF d + N0 ≤ fu →
      VrM va vm → CdM A0 p os → dzL s base st → EvM A0 vm st cs 0 A →
      LvK A0 vm cs base (evE va el (fun f => (fb f).isSome) (caL fb el d va) os s) (p + (enc os).length) N0 K → wp_Mo_work_c12 K fu 250 (iN p) A := by
  intro os
  induction os with
  | nil =>
    intro p N0 fu i vm va st cs s base A hG hd hsi hi60 hfn hb hcs hN hfu hv hC hz h kk
    obtain ⟨x, rfl⟩ : ∃ x, s = [x] := by
      have hd := Option.some.inj hd
      cases s with
      | nil => simp at hd
      | cons x s =>
        cases s with
        | nil => exact ⟨x, rfl⟩
        | cons y s => simp at hd
    obtain ⟨x', t, rfl, hx, ho, hr⟩ := hz
    have hr : t = base := hr
    subst hr
    exact kk.1 x rfl fu x' A (by simpa using hfu) hx ho h
  | cons x r ih =>
    intro p N0 fu i vm va st cs s base A hG hd hsi hi60 hfn hb hcs hN hfu hv hC hz h kk
    simp only [List.length_cons] at hi60 hfu
    have hgp := gcF_pos d
    rw [Nat.succ_mul] at hfu
    obtain ⟨fu, rfl⟩ : ∃ g, fu = g + 1 := ⟨fu - 1, by omega⟩
    obtain ⟨hO, hNm⟩ := hG x (by simp)
    obtain ⟨c1, c2, c3⟩ := CdM_cons hC
    have hlen := dpE_len (x :: r) _ hd
    simp only [List.length_cons] at hlen
    have hst := dzL_len hz
    have e14 := (MW_f hW h).2.2.1
    unfold dpE at hd
    cases hdx : dpO x s.length with
    | none => rw [hdx] at hd; cases hd
    | some n =>
      rw [hdx] at hd
      have elen : (enc (x :: r)).length = (eO x).length + (enc r).length := by simp [enc]
      rw [elen, ← Nat.add_assoc] at kk
      unfold evE at kk
      have out1 : ∀ l, opE va el (fun f => (fb f).isSome) (caL fb el d va) x s = .ok l → ∀ g st' A', r.length * gcF d + N0 ≤ g → dzL l base st' → EvM A0 vm st' cs 0 A' → wp_Mo_work_c12 K g 250 (iN (p + (eO x).length)) A' := by
        intro l hl g st' A' hg hzl h'
        rw [hl] at kk
        have hln := (opE_dpl (va := va) (el := el) (fd := fun f => (fb f).isSome) (ca := caL fb el d va) hO hdx) l hl
        refine ih (p + (eO x).length) N0 g (i + 1) vm va st' cs l base A' (fun y hy => hG y (by simp [hy])) (by rw [hln]; exact hd) (by have := dpO_le hdx; omega) (by omega) (hfn.2 (fun h12 => ?_)) hb hcs hN hg hv c3 hzl h' kk
        obtain ⟨j, a, pl⟩ := x
        have h12 : j = 12 := h12
        subst h12
        rw [oq_12] at hl
        by_cases q : (fb a.toNatClampNeg).isSome = true
        · exact q
        · rw [if_neg q] at hl; cases hl
      have out2 : ∀ e, opE va el (fun f => (fb f).isSome) (caL fb el d va) x s = .error e → e ≠ 0 → ∀ g st' A' cs' vm' q', 1 ≤ g → unw vm' cs' = unw vm cs → EvM A0 vm' st' cs' e A' → wp_Mo_work_c12 K g 250 q' A' := by
        intro e he e0
        rw [he] at kk
        exact kk.2 e rfl e0
      unfold wp_Mo_work_c12
      rw [h.2.1.2.1, e14, iN_cl (a := p) (by omega), h.1.2.2.1 257 (by omega) (by omega) (by omega)]
      by_cases h13 : x.1 = 13
      · obtain ⟨j, a, pl⟩ := x
        have h13 : j = 13 := h13
        subst h13
        obtain ⟨f, hf, he⟩ := hO.2.2 (Or.inr (Or.inr rfl))
        have he : a = iN f := he
        subst he
        have hs1 : ∃ y r', s = y :: r' := by
          cases s with
          | nil => simp [dpO] at hdx
          | cons y s => exact ⟨y, s, rfl⟩
        obtain ⟨u, s', rfl⟩ := hs1
        obtain ⟨u', t, rfl, hu, huo, hr⟩ := hz
        have c0 : gI A0 257 p = 13 := c2 0 13 rfl
        rw [c0]
        have hsome := hfn.1 rfl
        rw [iN_cl (by omega)] at hsome
        rw [oq_13, iN_cl (by omega)] at out1 out2
        simp only [List.length_cons] at hst hlen hsi
        rcases hF f hf with ⟨q1, q2⟩ | ⟨k, i', p', os, q⟩
        · simp [q2] at hsome
        · refine ⟨rfl, fun q => absurd rfl q, fun _ => ⟨rfl, iN_in (m := 4000) (by omega) (by omega), fun q => absurd q (by decide), fun _ => mo_13 hW h (by omega) (c2 1 _ rfl) hf ?_⟩⟩
          exact HC f k i' p' os vm va cs s' base t u u' A (p + 2) (r.length * gcF d + N0) fu hf q hv hu huo hr h hcs (by omega) (by omega) (by omega) (by omega) out1 out2
      · obtain ⟨m1, m2⟩ := m_op hW hE hF hv h hz (by omega) hO hNm h13 hdx (by omega) c2 ⟨fun l st' A' hl hzl h' => out1 l hl fu st' A' (by omega) hzl h', fun f st' A' q hf f0 h' => out2 f hf f0 fu st' A' cs vm q (by omega) rfl h'⟩
        exact ⟨rfl, fun q => absurd rfl q, fun _ => ⟨rfl, iN_in (m := 4000) (by omega) (by omega), fun q => absurd q m1, fun _ => m2⟩⟩
theorem m_hc {K : UInt64 → Mem → Prop} (hW : MW A0) (hE : ElM A0 mr mc el) (hF : FbM A0 fb) : ∀ (d : Nat), d ≤ 3 → HcM A0 fb el K d := by
  intro d
  induction d with
  | zero =>
    intro _ f k i' p' os' vm va cs s' base t u u' A q N1 fu hf hq hv hu huo hr h hcs ht hq4 hN hfu k1 k2
    obtain ⟨q0, q1, q2, q3, q4, q5, q6, q7, q8, q9⟩ := hq
    have : gcF 0 = 1 := rfl
    refine m_call hW h hf q0 q1 q2 q3 (fun hlt => by omega) (fun _ A' r' h' => ?_)
    refine k2 2 ?_ (by decide) fu _ A' cs vm r' (by omega) rfl h'
    show psE s' (match fb f with | none => _ | some _ => _) = _
    rw [q9]; rfl
  | succ d ih =>
    intro hd3 f k i' p' os' vm va cs s' base t u u' A q N1 fu hf hq hv hu huo hr h hcs ht hq4 hN hfu k1 k2
    obtain ⟨q0, q1, q2, q3, q4, q5, q6, q7, q8, q9⟩ := hq
    have hca : caL fb el (d + 1) va f u = evE (us va i' u) el (fun f => (fb f).isSome) (caL fb el d (us va i' u)) os' [] := by
      show (match fb f with | none => _ | some b => _) = _
      rw [q9]
      exact evL_ca _ _ _ _ _
    rw [hca] at k1 k2
    have hg : gcF (d + 1) = 60 * gcF d + 2 := rfl
    have hm : os'.length * gcF d ≤ 60 * gcF d := Nat.mul_le_mul_right _ q6.2.1
    refine m_call hW h hf q0 q1 q2 q3 (fun hlt A' h' => ?_) (fun he => by omega)
    rw [q4]
    refine m_levX (by omega) hW hE hF (ih (by omega)) os' p' (N1 + 1) fu 0 (us vm i' u') (us va i' u) t _ [] t A' (fun x hx => ⟨q6.1 x hx, q7 x hx⟩) q6.2.2 (Nat.le_refl 0) (by have := q6.2.1; omega) (q8 _) (by omega) (by simp only [List.length_cons]; omega) (by omega) (by omega) (VrM_us hv hu huo) q5 rfl h' ⟨fun v hv g v' B hg2 hd ho hB => ?_, fun e he e0 g st' B cs' vm' q' hg2 hun hB => ?_⟩
    · obtain ⟨g, rfl⟩ : ∃ g', g = g' + 1 := ⟨g - 1, by omega⟩
      have e14 := (MW_f hW hB).2.2.1
      have hend : gI A0 257 (p' + (enc os').length) = 14 := q5.2 _ 14 (by rw [List.getElem?_append_right (Nat.le_refl _), Nat.sub_self]; rfl)
      have hp4 := q5.1
      have hcs3 := hB.2.1.2.2.2.2.1
      simp only [List.length_cons] at hcs3
      unfold wp_Mo_work_c12
      rw [hB.2.1.2.1, e14, iN_cl (a := p' + (enc os').length) (by omega), hB.1.2.2.1 257 (by omega) (by omega) (by omega), hend, hB.2.1.2.2.2.1, List.length_cons]
      refine ⟨rfl, fun q => absurd rfl q, fun _ => ⟨rfl, iN_in (m := 4000) (by omega) (by omega), fun _ => ⟨fun _ => ?_, fun q => ?_⟩, fun q => absurd rfl q⟩⟩
      · refine m_leave hW hB (fun B' hB' hr' => ?_)
        have hB' : EvM A0 (us (us vm i' u') i' (vm i')) (v' :: t) cs 0 B' := hB'
        rw [us_back] at hB'
        obtain ⟨-, -, -, -, -, -, -, -, -, -, f43, -⟩ := MW_f hW hB'
        have hr' : gI B' 274 cs.length = iN q := hr'
        rw [f43, hB'.2.1.2.2.2.1, iN_cl (a := cs.length) (by omega), hr']
        refine ⟨rfl, iN_in (m := 4) (by omega) (by omega), ?_⟩
        exact k1 (v :: s') (by rw [hv]; rfl) g (v' :: t) B' (by omega) ⟨v', t, rfl, hd, ho, hr⟩ hB'
      · rw [show (0 : Int32) = iN 0 from rfl, iN_eq (by omega) (by omega)] at q; omega
    · refine k2 e (by rw [he]; rfl) e0 g st' B cs' vm' q' hg2 ?_ hB
      rw [hun]
      show unw (us (us vm i' u') i' (vm i')) cs = unw vm cs
      rw [us_back]
/-- what working out an expression owes in the reference -/
def oKW (A0 : Mem) (vm : Nat → UInt64) (e : EV) (K : UInt64 → Mem → Prop) : Prop :=
  (∀ v, e = .ok v → ∀ v' st A', dz v v' → okd v → EvM A0 vm st [] 0 A' → K v' A') ∧ (∀ f, e = .error f → f ≠ 0 → ∀ st A', EvM A0 vm st [] f A' → K FP.dconst0 A')
theorem m_work {K : UInt64 → Mem → Prop} {os : List SOp} {p : Nat} {vm va : Nat → UInt64} {st : List UInt64} {A : Mem} {cs : CSt} (hW : MW A0) (hE : ElM A0 mr mc el) (hF : FbM A0 fb) (hG : GdE os) (hN : ∀ x, x ∈ os → NmO x) (hfn : ∀ φ, FnE φ os) (hv : VrM va vm) (hC : CdM A0 p os) (h : EvM A0 vm st cs 0 A) (kk : oKW A0 vm (evL fb el 3 va os) K) : wp_Mo_work 250 (iN p) A K := by
  rw [evL_ca] at kk
  have h0 : EvM A0 vm [] [] 0 (sI (sI A 250 25 0) 250 24 0) := by
    obtain ⟨⟨a1, a2, a3, a4, a5⟩, ⟨b1, b2, b3, b4, b5, b6⟩, ⟨c1, c2, c3⟩⟩ := h
    refine ⟨⟨a1, a2, fun o h1 h2 h3 => ?_, fun k h1 h2 h3 => ?_, a5⟩, ⟨b1, ?_, b3, gI_eq, by simp, trivial⟩, ⟨?_, by simp, trivial⟩⟩
    · rw [gI_row h1, gI_row h1]; exact a3 o h1 h2 h3
    · rw [gI_ne (Or.inr h1), gI_ne (Or.inr h2)]; exact a4 k h1 h2 h3
    · rw [gI_ne (Or.inr (by omega)), gI_ne (Or.inr (by omega))]; exact b2
    · rw [gI_ne (Or.inr (by omega)), gI_eq]; rfl
  refine ⟨rfl, os.length * gcF 3 + 5, ?_⟩
  refine m_levX (d := 3) (by omega) hW hE hF (m_hc hW hE hF 3 (by omega)) os p 5 _ 0 vm va [] [] [] [] _ (fun x hx => ⟨hG.1 x hx, hN x hx⟩) hG.2.2 (Nat.le_refl 0) (by have := hG.2.1; omega) (hfn _) (by simp) rfl (by omega) (by omega) hv hC rfl h0 ⟨fun v hv g v' B hg hd ho hB => ?_, fun e he e0 g st' B cs' vm' q' hg hun hB => ?_⟩
  · obtain ⟨g, rfl⟩ : ∃ g', g = g' + 1 := ⟨g - 1, by omega⟩
    obtain ⟨-, -, e14, -, e30, -⟩ := MW_f hW hB
    have hend : gI A0 257 (p + (enc os).length) = 14 := hC.2 _ 14 (by rw [List.getElem?_append_right (Nat.le_refl _), Nat.sub_self]; rfl)
    have hp4 := hC.1
    unfold wp_Mo_work_c12
    rw [hB.2.1.2.1, e14, iN_cl (a := p + (enc os).length) (by omega), hB.1.2.2.1 257 (by omega) (by omega) (by omega), hend, hB.2.1.2.2.2.1, e30]
    refine ⟨rfl, fun q => absurd rfl q, fun _ => ⟨rfl, iN_in (m := 4000) (by omega) (by omega), fun _ => ⟨fun q => absurd rfl q, fun _ => ⟨rfl, iN_in (a := 0) (m := 200) (by omega) (by omega), ?_⟩⟩, fun q => absurd rfl q⟩⟩
    rw [show (gD B 261 (Int32.toNatClampNeg 0)) = v' from hB.2.2.2.2.1]
    exact kk.1 v hv v' _ B hd ho hB
  · obtain ⟨g, rfl⟩ : ∃ g', g = g' + 1 := ⟨g - 1, by omega⟩
    unfold wp_Mo_work_c12
    have he7 := hB.2.1.2.2.1
    rw [hB.2.1.2.1, show (0 : Int32) = iN 0 from rfl, iN_eq (by omega) (by omega)]
    refine ⟨rfl, fun _ => ⟨4, m_unw hW cs' vm' B 4 (by have := hB.2.1.2.2.2.2.1; omega) hB (fun B' hB' => ?_)⟩, fun q => absurd q e0⟩
    rw [hun] at hB'
    exact kk.2 e he e0 st' B' hB'
end MLV
