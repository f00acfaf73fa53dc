/-! the class's memory within a run -/
/-- what a run keeps -/
def FrR (B A : Mem) : Prop := gL A = gL B ∧ (∀ o, o ≠ 5 → o ≠ 8 → (o < 12 ∨ 15 < o) → o ≠ 20 → o ≠ 21 → o ≠ 22 → o ≠ 26 → gI A o = gI B o) ∧ (∀ k, k ≠ 8 → gI A 8 k = gI B 8 k) ∧ (∀ k, k < 4 → gI A 5 k = gI B 5 k) ∧ (∀ o, o ≠ 8 → o ≠ 10 → gR A o = gR B o) ∧ (∀ k, k ≠ 0 → gR A 8 k = gR B 8 k) ∧ ∀ o, 28 ≤ o → gD A o = gD B o
def RtA (A : Mem) (rt : List Nat) : Prop := gI A 5 5 = iN rt.length ∧ rt.length ≤ 8 ∧ ∀ k x, rt[k]? = some x → gI A 26 k = iN x ∧ x ≤ 24
def DaA (A : Mem) (dat : List UInt64) (rd : Nat) : Prop := gI A 5 6 = iN dat.length ∧ dat.length ≤ 144 ∧ gI A 5 7 = iN rd ∧ rd ≤ dat.length ∧ lsI (gD A 27) dat ∧ ∀ x, x ∈ dat → okd x
def PrA (A : Mem) (pr : List UInt64) : Prop := gI A 5 4 = iN pr.length ∧ pr.length ≤ 400 ∧ (∀ k x, pr[k]? = some x → (k < 40 → gD A 25 k = x) ∧ okd x)
def MmA (A : Mem) (s : RS) : Prop := MxA A (rMr s) (rMc s) ∧ (∀ m i, m < 3 → i < 36 → gD A (16 + m) i = rMe s m i) ∧ ∀ m, 3 ≤ m → rMr s m = 0
def CR (B : Mem) (dat : List UInt64) (q : Nat → Int32) (s : RS) (ft : Nat) (A : Mem) : Prop :=
  FrR B A ∧ (gI A 5 8 = q 8 ∧ gI A 5 9 = q 9 ∧ gI A 5 10 = q 10 ∧ gI A 5 13 = q 13) ∧ CvS A (rVa s) ft A ∧ MmA A s ∧ (FbA A (rFb s) ∧ ∀ f, 3 ≤ f → rFb s f = none) ∧ LoA A (rLp s) ∧ RtA A (rRt s) ∧ DaA A dat (rRd s) ∧ PrA A (rPn s) ∧ (gI A 5 14 = iN (rDu s) ∧ rDu s ≤ 24)
section RC1
variable {B A : Mem} {dat : List UInt64} {q : Nat → Int32} {s : RS} {ft : Nat} {P : PT}
theorem WC_R (hW : WC B) (h : FrR B A) : WC A := by
  obtain ⟨-, -, -, -, a4, a5, -⟩ := h
  obtain ⟨⟨w1, w2, w3, w4⟩, ⟨b1, b2, b3, b4, b5, b6⟩, ⟨c1, c2, c3, c4, c5, c6, c7⟩, ⟨d1, d2, d3, d4⟩, ⟨e1, e2, e3, e4⟩, f⟩ := hW
  unfold WC
  rw [a4 1 (by omega) (by omega), a4 3 (by omega) (by omega), a4 5 (by omega) (by omega), a4 12 (by omega) (by omega), a4 13 (by omega) (by omega), a4 14 (by omega) (by omega), a4 15 (by omega) (by omega), a4 20 (by omega) (by omega), a5 1 (by omega), a5 2 (by omega), a5 3 (by omega), a5 4 (by omega), a5 5 (by omega), a5 6 (by omega), a5 7 (by omega)]
  exact ⟨⟨w1, w2, w3, w4⟩, ⟨b1, b2, b3, b4, b5, b6⟩, ⟨c1, c2, c3, c4, c5, c6, c7⟩, ⟨d1, d2, d3, d4⟩, ⟨e1, e2, e3, e4⟩, fun L h1 h2 => by rw [a4 L (by omega) (by omega)]; exact f L h1 h2⟩
theorem CLv_R {L : Nat} {v : Int32} {dd : LDT} (hL : 100 ≤ L) (h : FrR B A) (k : CLv B L v dd) : CLv A L v dd :=
  CLv_cg k (h.2.1 _ (by omega) (by omega) (by omega) (by omega) (by omega) (by omega) (by omega)) (h.2.1 _ (by omega) (by omega) (by omega) (by omega) (by omega) (by omega) (by omega)) (h.2.1 _ (by omega) (by omega) (by omega) (by omega) (by omega) (by omega) (by omega)) (h.2.1 _ (by omega) (by omega) (by omega) (by omega) (by omega) (by omega) (by omega)) (h.2.1 _ (by omega) (by omega) (by omega) (by omega) (by omega) (by omega) (by omega)) (h.2.2.2.2.1 _ (by omega) (by omega))
theorem ln_R (h : FrR B A) (i : Nat) : ln A i = ln B i := by
  unfold ln
  rw [h.2.2.2.2.1 7 (by omega) (by omega), h.2.2.2.2.1 3 (by omega) (by omega)]
theorem PC_R (hP : PC B P) (h : FrR B A) : PC A P := by
  obtain ⟨p1, p2, p3, p4, p5, p6⟩ := hP
  refine ⟨p1, ?_, ?_, fun i hi => ?_, fun i j hi hj => ?_, fun i v d hi => ?_⟩
  · rw [h.2.1 6 (by omega) (by omega) (by omega) (by omega) (by omega) (by omega) (by omega)]; exact p2
  · rw [h.2.2.2.2.1 6 (by omega) (by omega)]; exact p3
  · rw [ln_R h]; exact p4 i hi
  · rw [ln_R h, ln_R h]; exact p5 i j hi hj
  · rw [ln_R h]
    have hi' : i < 25 := by have := (List.getElem?_eq_some_iff.mp hi).1; omega
    exact CLv_R (p4 i hi').1 h (p6 i v d hi)
theorem FrR_rfl : FrR A A := ⟨rfl, fun _ _ _ _ _ _ _ _ => rfl, fun _ _ => rfl, fun _ _ => rfl, fun _ _ _ => rfl, fun _ _ => rfl, fun _ _ => rfl⟩
theorem FrR_tr {C : Mem} (h : FrR B A) (g : FrR A C) : FrR B C :=
  ⟨g.1.trans h.1, fun o a b c d e f i => (g.2.1 o a b c d e f i).trans (h.2.1 o a b c d e f i), fun k hk => (g.2.2.1 k hk).trans (h.2.2.1 k hk), fun k hk => (g.2.2.2.1 k hk).trans (h.2.2.2.1 k hk), fun o a b => (g.2.2.2.2.1 o a b).trans (h.2.2.2.2.1 o a b), fun k hk => (g.2.2.2.2.2.1 k hk).trans (h.2.2.2.2.2.1 k hk), fun o ho => (g.2.2.2.2.2.2 o ho).trans (h.2.2.2.2.2.2 o ho)⟩
theorem FrR_ev {va : Nat → UInt64} {A' : Mem} (h : CvS A va ft A') : FrR A A' := by
  obtain ⟨t, ⟨⟨a1, a2, a3, a4, a5, a6⟩, -⟩, -⟩ := h
  exact ⟨a1, fun o _ h8 _ _ _ _ _ => a2 o h8, a3, fun k _ => congrFun (a2 5 (by omega)) k, fun o h8 _ => a4 o h8, a5, fun o ho => a6 o (by omega) (by omega)⟩
/-- an evaluation, or a fault, within a run -/
theorem CR_ev {ft' : Nat} {A' : Mem} (h : CR B dat q s ft A) (hc : CvS A (rVa s) ft' A') : CR B dat q s ft' A' := by
  obtain ⟨hF, ⟨q1, q2, q3, q4⟩, hv, ⟨m1, m2, m3⟩, ⟨f1, f2⟩, hl, hr, hd, hp, hu⟩ := h
  have hF' := FrR_ev hc
  obtain ⟨t, ht, ht0⟩ := hc
  have ht' := ht
  obtain ⟨⟨a1, a2, a3, a4, a5, a6⟩, -⟩ := ht'
  have i5 := a2 5 (by omega)
  refine ⟨FrR_tr hF hF', ⟨by rw [i5]; exact q1, by rw [i5]; exact q2, by rw [i5]; exact q3, by rw [i5]; exact q4⟩, ⟨t, EvS_re ht, ht0⟩, ⟨fun m hm => ?_, fun m i hm hi => ?_, m3⟩, ⟨fun f hf => ?_, f2⟩, ?_, ?_, ?_, ?_, ?_⟩
  · rw [a2 _ (by omega), a6 _ (by omega) (by omega)]; exact m1 m hm
  · rw [a6 _ (by omega) (by omega)]; exact m2 m i hm hi
  · rw [a4 10 (by omega)]
    rcases f1 f hf with g | ⟨v, dd, i, os, g1, g2, g3⟩
    · exact Or.inl g
    · exact Or.inr ⟨v, dd, i, os, CLv_Ev g2.1 ht g1, g2, g3⟩
  · obtain ⟨l1, l2, l3⟩ := hl
    refine ⟨by rw [a2 20 (by omega)]; exact l1, l2, fun k e hk => ?_⟩
    rw [a2 21 (by omega), a2 22 (by omega), a6 23 (by omega) (by omega), a6 24 (by omega) (by omega)]
    exact l3 k e hk
  · obtain ⟨r1, r2, r3⟩ := hr
    refine ⟨by rw [i5]; exact r1, r2, fun k x hk => ?_⟩
    rw [a2 26 (by omega)]; exact r3 k x hk
  · obtain ⟨d1, d2, d3, d4, d5, d6⟩ := hd
    exact ⟨by rw [i5]; exact d1, d2, by rw [i5]; exact d3, d4, by rw [a6 27 (by omega) (by omega)]; exact d5, d6⟩
  · obtain ⟨p1, p2, p3⟩ := hp
    refine ⟨by rw [i5]; exact p1, p2, fun k x hk => ?_⟩
    rw [a6 25 (by omega) (by omega)]; exact p3 k x hk
  · rw [i5]; exact hu
theorem elA_S (h : MmA A s) : elA A (rMr s) (rMc s) = elS (rMr s) (rMc s) (rMe s) := by
  obtain ⟨m1, m2, m3⟩ := h
  funext m x y
  unfold elA elS
  cases hp : plM (rMr s m) (rMc s m) (FP.d2l x) (FP.d2l y) with
  | none => rfl
  | some i =>
    by_cases hm : m < 3
    · have := m1 m hm
      show Except.ok _ = Except.ok _
      rw [m2 m i hm (plM_lt this.2.2.1 this.2.2.2.1 hp)]
    · rw [m3 m (by omega)] at hp
      unfold plM at hp
      rw [if_neg (by omega)] at hp
      cases hp
/-- the fault behind an expression -/
def fEx {α : Type} (ft : Nat) (e : Except Nat α) : Nat := if ft = 0 then (match e with
  | .ok _ => 0
  | .error f => f) else ft
theorem c_ev {L k : Nat} {v : Int32} {d : LDT} {os : List SOp} {K : UInt64 → Mem → Prop} (hW : WC B) (h : CR B dat q s ft A) (hC : CLv B L v d) (hL : 100 ≤ L) (hL2 : L < 125) (he : d.2.2.2.2.1[k]? = some os) (hP : PGd os)
    (kk : ∀ w A', okd w → CR B dat q s (fEx ft (evS s os)) A' → (∀ w', ft = 0 → evS s os = .ok w' → w = w') → (ft = 0 → ∀ f, evS s os = .error f → f ≠ 0) → K w A') : wp_Ca_workOut 8 L (iN k) A K := by
  have h' := h
  obtain ⟨hF, -, hv, hM, hf, -⟩ := h'
  unfold wp_Ca_workOut
  refine ⟨rfl, ?_⟩
  refine n_evalC (WC_R hW hF) hM.1 hf.1 hf.2 hv (CLv_R hL hF hC) hL hL2 he (GdE_of hC he hP) ?_
  rw [elA_S hM]
  refine ⟨fun h0 w hw ho A' hc => kk w A' ho ?_ ?_ ?_, fun h0 f hf f0 w A' ho hc => kk w A' ho ?_ ?_ ?_, fun h0 w A' ho hc => kk w A' ho ?_ ?_ ?_⟩
  · have e : evS s os = .ok w := hw
    unfold fEx
    rw [if_pos h0, e]
    exact CR_ev h hc
  · intro w' _ e
    exact Except.ok.inj ((show evS s os = .ok w from hw).symm.trans e)
  · intro _ f e
    cases (show evS s os = .ok w from hw).symm.trans e
  · have e : evS s os = .error f := hf
    unfold fEx
    rw [if_pos h0, e]
    exact CR_ev h hc
  · intro w' _ e
    cases (show evS s os = .error f from hf).symm.trans e
  · intro _ f' e
    rw [← Except.error.inj ((show evS s os = .error f from hf).symm.trans e)]; exact f0
  · unfold fEx
    rw [if_neg h0]
    exact CR_ev h hc
  · intro w' q; exact absurd q h0
  · intro q; exact absurd q h0
theorem c_fine {K : Bool → Mem → Prop} (h : CR B dat q s ft A) (k1 : ft = 0 → K true A) (k2 : ft ≠ 0 → K false A) : wp_Ca_isFine 8 A K := n_fineC h.2.2.1 k1 k2
theorem c_fail {f : Nat} {K : Mem → Prop} (h : CR B dat q s ft A) (hf : f < 7) (f0 : f ≠ 0) (k : ∀ A', CR B dat q s (if ft = 0 then f else ft) A' → K A') : wp_Ca_fail 8 (1200 + f) A K :=
  n_failC h.2.2.1 hf f0 (fun A' hc => k A' (CR_ev h hc))
theorem bnE_ok {α : Type} {e : Except Nat α} {k : α → RS × Nat} {v : α} (h : e = .ok v) : bnE e s k = k v := by rw [h]; rfl
theorem bnE_er {α : Type} {e : Except Nat α} {k : α → RS × Nat} {f : Nat} (h : e = .error f) : bnE e s k = (s, f) := by rw [h]; rfl
/-- the end of a statement that has failed in its expressions -/
theorem fEx_1 {α : Type} {e : Except Nat α} {k : α → RS × Nat} (h : fEx 0 e ≠ 0) : bnE e s k = (s, fEx 0 e) := by
  cases e with
  | ok v => exact absurd rfl h
  | error f => rfl
theorem fEx_0 {α : Type} {ft : Nat} {e : Except Nat α} (h : fEx ft e = 0) (hn : ft = 0 → ∀ f, e = .error f → f ≠ 0) : ft = 0 ∧ ∃ v, e = .ok v := by
  unfold fEx at h
  by_cases h0 : ft = 0
  · rw [if_pos h0] at h
    cases e with
    | ok v => exact ⟨h0, v, rfl⟩
    | error f => exact absurd h (hn h0 f rfl)
  · rw [if_neg h0] at h; exact absurd h h0
theorem fEx_ok1 {α : Type} {e : Except Nat α} (h : fEx 0 e = 0) (n1 : (0 : Nat) = 0 → ∀ f, e = .error f → f ≠ 0) : ∃ u, e = .ok u := (fEx_0 h n1).2
theorem fEx_ok2 {α β : Type} {e : Except Nat α} {g : Except Nat β} (h : fEx (fEx 0 e) g = 0) (n1 : (0 : Nat) = 0 → ∀ f, e = .error f → f ≠ 0) (n2 : fEx 0 e = 0 → ∀ f, g = .error f → f ≠ 0) : ∃ u v, e = .ok u ∧ g = .ok v ∧ fEx 0 e = 0 := by
  obtain ⟨h1, v, hv⟩ := fEx_0 h n2
  obtain ⟨u, hu⟩ := fEx_ok1 h1 n1
  exact ⟨u, v, hu, hv, h1⟩
theorem fEx_ok3 {α β γ : Type} {e : Except Nat α} {g : Except Nat β} {c : Except Nat γ} (h : fEx (fEx (fEx 0 e) g) c = 0) (n1 : (0 : Nat) = 0 → ∀ f, e = .error f → f ≠ 0) (n2 : fEx 0 e = 0 → ∀ f, g = .error f → f ≠ 0) (n3 : fEx (fEx 0 e) g = 0 → ∀ f, c = .error f → f ≠ 0) : ∃ u v w, e = .ok u ∧ g = .ok v ∧ c = .ok w ∧ fEx 0 e = 0 ∧ fEx (fEx 0 e) g = 0 := by
  obtain ⟨h2, w, hw⟩ := fEx_0 h n3
  obtain ⟨u, v, hu, hv, h1⟩ := fEx_ok2 h2 n1 n2
  exact ⟨u, v, w, hu, hv, hw, h1, h2⟩
theorem fEx_2 {α β : Type} {e : Except Nat α} {g : Except Nat β} {k : α → β → RS × Nat} (h : fEx (fEx 0 e) g ≠ 0) (hn : ∀ f, e = .error f → f ≠ 0) : bnE e s (fun x => bnE g s (k x)) = (s, fEx (fEx 0 e) g) := by
  cases e with
  | ok v => exact fEx_1 (e := g) (k := k v) h
  | error f =>
    have e : fEx (fEx 0 (Except.error f : Except Nat α)) g = f := by
      show (if f = 0 then _ else f) = f
      rw [if_neg (hn f rfl)]
    rw [e]; rfl
theorem fEx_3 {α β γ : Type} {e : Except Nat α} {g : Except Nat β} {h : Except Nat γ} {k : α → β → γ → RS × Nat} (hh : fEx (fEx (fEx 0 e) g) h ≠ 0) (hn : ∀ f, e = .error f → f ≠ 0) (hn2 : fEx 0 e = 0 → ∀ f, g = .error f → f ≠ 0) : bnE e s (fun x => bnE g s (fun y => bnE h s (k x y))) = (s, fEx (fEx (fEx 0 e) g) h) := by
  cases e with
  | ok v => exact fEx_2 (e := g) (g := h) (k := k v) hh (hn2 rfl)
  | error f =>
    have e1 : fEx (fEx 0 (Except.error f : Except Nat α)) g = f := by
      show (if f = 0 then _ else f) = f
      rw [if_neg (hn f rfl)]
    have e : fEx (fEx (fEx 0 (Except.error f : Except Nat α)) g) h = f := by
      rw [e1]
      show (if f = 0 then _ else f) = f
      rw [if_neg (hn f rfl)]
    rw [e]; rfl
end RC1
