/-! the reference's memory within a run -/
def MFr (B A : Mem) : Prop := gL A = gL B ∧ gR A = gR B ∧ (∀ o, o ≠ 250 → (o < 268 ∨ 275 < o) → gI A o = gI B o) ∧ (∀ k, k < 16 → gI A 250 k = gI B 250 k) ∧ ∀ o, (o < 259 ∨ 267 < o) → gD A o = gD B o
def slI (sl : List Nat) (i : Nat) : Int32 := match sl[i]? with
  | some k => iN k
  | none => -1
def EvR (A : Mem) (va : Nat → UInt64) (ft : Nat) : Prop := ∃ vm st, EvM A vm st [] ft A ∧ VrM va vm
def MmM (A : Mem) (s : RS) : Prop := ∀ m, m < 3 → gI A 269 m = iN (rMr s m) ∧ gI A 270 m = iN (rMc s m) ∧ rMr s m ≤ 6 ∧ rMc s m ≤ 6 ∧ ∀ i j, i < rMr s m → j < rMc s m → dz (rMe s m (i * 6 + j)) (gD A 266 (m * 36 + (i * 6 + j))) ∧ okd (rMe s m (i * 6 + j))
def LoM (A : Mem) (sl : List Nat) (lp : List LoT) : Prop := gI A 250 23 = iN lp.length ∧ lp.length ≤ 6 ∧ ∀ (k : Nat) (e : LoT), lp[k]? = some e → gI A 272 k = iN e.1 ∧ e.1 < 26 ∧ (∃ w, sl[e.2.1]? = some w ∧ gI A 273 k = iN w) ∧ (dz e.2.2.1 (gD A 263 k) ∧ okd e.2.2.1) ∧ dz e.2.2.2 (gD A 264 k) ∧ okd e.2.2.2
def RtM (A : Mem) (sl : List Nat) (rt : List Nat) : Prop := gI A 250 22 = iN rt.length ∧ rt.length ≤ 8 ∧ ∀ (k x : Nat), rt[k]? = some x → gI A 271 k = slI sl x
def DaM (A : Mem) (dat : List UInt64) (rd : Nat) : Prop := gI A 250 20 = iN dat.length ∧ dat.length ≤ 144 ∧ gI A 250 19 = iN rd ∧ rd ≤ dat.length ∧ ∀ k x, dat[k]? = some x → dz x (gD A 262 k) ∧ okd x
def PrM (A : Mem) (pr : List UInt64) : Prop := gI A 250 18 = iN pr.length ∧ pr.length ≤ 400 ∧ ∀ k x, pr[k]? = some x → (k < 40 → dz x (gD A 259 k)) ∧ okd x
def MR (B : Mem) (sl : List Nat) (dat : List UInt64) (q : Nat → Int32) (s : RS) (ft : Nat) (A : Mem) : Prop :=
  MFr B A ∧ (gI A 250 16 = q 16 ∧ gI A 250 17 = q 17 ∧ gI A 250 26 = q 26) ∧ EvR A (rVa s) ft ∧ MmM A s ∧ FbM A (rFb s) ∧ LoM A sl (rLp s) ∧ RtM A sl (rRt s) ∧ DaM A dat (rRd s) ∧ PrM A (rPn s)
/-- expressions of the program's lines -/
def PGx (P : PT) : Prop := ∀ v d, (v, d) ∈ P → ∀ e, e ∈ d.2.2.2.2.1 → GdE e
section RM1
variable {B A A' : Mem} {dat : List UInt64} {q : Nat → Int32} {s : RS} {ft : Nat} {P : PT} {sl : List Nat}
theorem PGx_of (hP : PC A P) (hL : PLd P) : PGx P := by
  intro v d hm e he
  obtain ⟨i, hi, hg⟩ := List.mem_iff_getElem.mp hm
  obtain ⟨k, hk, hke⟩ := List.mem_iff_getElem.mp he
  have hC := hP.2.2.2.2.2 i v d (by rw [List.getElem?_eq_getElem hi, hg])
  exact GdE_of (k := k) hC (by rw [List.getElem?_eq_getElem hk, hke]) ((hL v d hm).1.1 e he)
theorem MFr_rfl : MFr A A := ⟨rfl, rfl, fun _ _ _ => rfl, fun _ _ => rfl, fun _ _ => rfl⟩
theorem MFr_tr {C : Mem} (h : MFr B A) (g : MFr A C) : MFr B C :=
  ⟨g.1.trans h.1, g.2.1.trans h.2.1, fun o a b => (g.2.2.1 o a b).trans (h.2.2.1 o a b), fun k hk => (g.2.2.2.1 k hk).trans (h.2.2.2.1 k hk), fun o ho => (g.2.2.2.2 o ho).trans (h.2.2.2.2 o ho)⟩
theorem MW_M (hW : MW B) (h : MFr B A) : MW A := by unfold MW; rw [h.2.1]; exact hW
theorem PMs_M (hP : PMs B P sl) (h : MFr B A) : PMs A P sl :=
  PMs_cg hP (fun k _ => by rw [h.2.2.1 253 (by omega) (by omega)]) (fun k _ => by rw [h.2.2.1 254 (by omega) (by omega)]) (fun k _ => by rw [h.2.2.1 255 (by omega) (by omega)]) (fun k _ => by rw [h.2.2.1 256 (by omega) (by omega)]) (fun k _ => by rw [h.2.2.1 257 (by omega) (by omega)])
theorem EvM_re {vm : Nat → UInt64} {st : List UInt64} {cs : CSt} (h : EvM B vm st cs ft A) : EvM A vm st cs ft A :=
  ⟨⟨rfl, rfl, fun _ _ _ _ => rfl, fun _ _ _ _ => rfl, fun _ _ _ _ => rfl⟩, h.2⟩
theorem EvR_cg {va' vm : Nat → UInt64} {st : List UInt64} {f : Nat} (h : EvM A vm st [] ft A) (e9 : VrM va' (gD A' 260)) (ef : gI A' 250 27 = iN f) (hf : f < 7) (e4 : gI A' 250 24 = gI A 250 24) (e5 : gI A' 250 25 = gI A 250 25) (e11 : gD A' 261 = gD A 261) : EvR A' va' f := by
  obtain ⟨-, ⟨b1, b2, b3, b4, b5, b6⟩, c1, c2, c3⟩ := h
  exact ⟨gD A' 260, st, ⟨⟨rfl, rfl, fun _ _ _ _ => rfl, fun _ _ _ _ => rfl, fun _ _ _ _ => rfl⟩, ⟨rfl, ef, hf, e4.trans b4, b5, trivial⟩, e5.trans c1, c2, by rw [e11]; exact c3⟩, e9⟩
theorem MmM_cg (h : MmM A s) (e1 : gI A' 269 = gI A 269) (e2 : gI A' 270 = gI A 270) (e3 : gD A' 266 = gD A 266) : MmM A' s := by
  unfold MmM
  rw [e1, e2, e3]
  exact h
theorem FbM_cg {fb : Nat → Option (Nat × List SOp)} (h : FbM A fb) (e1 : gI A' 268 = gI A 268) (e2 : gI A' 255 = gI A 255) (e3 : gI A' 256 = gI A 256) (e4 : gI A' 257 = gI A 257) : FbM A' fb := by
  unfold FbM CdM
  rw [e1, e2, e3, e4]
  exact h
theorem LoM_cg {lp : List LoT} (h : LoM A sl lp) (e0 : gI A' 250 23 = gI A 250 23) (e1 : gI A' 272 = gI A 272) (e2 : gI A' 273 = gI A 273) (e3 : gD A' 263 = gD A 263) (e4 : gD A' 264 = gD A 264) : LoM A' sl lp := by
  unfold LoM
  rw [e0, e1, e2, e3, e4]
  exact h
theorem RtM_cg {rt : List Nat} (h : RtM A sl rt) (e0 : gI A' 250 22 = gI A 250 22) (e1 : gI A' 271 = gI A 271) : RtM A' sl rt := by
  unfold RtM
  rw [e0, e1]
  exact h
theorem DaM_cg {rd : Nat} (h : DaM A dat rd) (e0 : gI A' 250 20 = gI A 250 20) (e1 : gI A' 250 19 = gI A 250 19) (e2 : gD A' 262 = gD A 262) : DaM A' dat rd := by
  unfold DaM
  rw [e0, e1, e2]
  exact h
theorem PrM_cg {pr : List UInt64} (h : PrM A pr) (e0 : gI A' 250 18 = gI A 250 18) (e1 : gD A' 259 = gD A 259) : PrM A' pr := by
  unfold PrM
  rw [e0, e1]
  exact h
theorem MFr_ev {vm : Nat → UInt64} {st : List UInt64} (h : EvM A vm st [] ft A') : MFr A A' := by
  obtain ⟨⟨a1, a2, a3, a4, a5⟩, -⟩ := h
  exact ⟨a1, a2, fun o h1 h2 => a3 o h1 (by omega) (by omega), fun k hk => a4 k (by omega) (by omega) (by omega), fun o ho => a5 o (by omega) (by omega) (by omega)⟩
theorem MR_ev {vm : Nat → UInt64} {st : List UInt64} {f : Nat} (h : MR B sl dat q s ft A) (hv : VrM (rVa s) vm) (hc : EvM A vm st [] f A') : MR B sl dat q s f A' := by
  obtain ⟨hF, ⟨q1, q2, q3⟩, -, hm, hf, hl, hr, hd, hp⟩ := h
  have hF' := MFr_ev hc
  have hc' := hc
  obtain ⟨⟨a1, a2, a3, a4, a5⟩, -⟩ := hc'
  have k4 : ∀ k, k ≠ 24 → k ≠ 25 → k ≠ 27 → gI A' 250 k = gI A 250 k := a4
  exact ⟨MFr_tr hF hF', ⟨(k4 16 (by omega) (by omega) (by omega)).trans q1, (k4 17 (by omega) (by omega) (by omega)).trans q2, (k4 26 (by omega) (by omega) (by omega)).trans q3⟩, ⟨vm, st, EvM_re hc, hv⟩, MmM_cg hm (a3 269 (by omega) (by omega) (by omega)) (a3 270 (by omega) (by omega) (by omega)) (a5 266 (by omega) (by omega) (by omega)), FbM_cg hf (a3 268 (by omega) (by omega) (by omega)) (a3 255 (by omega) (by omega) (by omega)) (a3 256 (by omega) (by omega) (by omega)) (a3 257 (by omega) (by omega) (by omega)), LoM_cg hl (k4 23 (by omega) (by omega) (by omega)) (a3 272 (by omega) (by omega) (by omega)) (a3 273 (by omega) (by omega) (by omega)) (a5 263 (by omega) (by omega) (by omega)) (a5 264 (by omega) (by omega) (by omega)), RtM_cg hr (k4 22 (by omega) (by omega) (by omega)) (a3 271 (by omega) (by omega) (by omega)), DaM_cg hd (k4 20 (by omega) (by omega) (by omega)) (k4 19 (by omega) (by omega) (by omega)) (a5 262 (by omega) (by omega) (by omega)), PrM_cg hp (k4 18 (by omega) (by omega) (by omega)) (a5 259 (by omega) (by omega) (by omega))⟩
/-- a fault -/
theorem MR_fail {f : Nat} (h : MR B sl dat q s ft A) (hf : f < 7) : MR B sl dat q s f (sI A 250 27 (iN f)) := by
  have h' := h
  obtain ⟨-, -, ⟨vm, st, he, hv⟩, -⟩ := h'
  exact MR_ev h hv (EvM_fail he hf)
theorem MR_f (h : MR B sl dat q s ft A) : gI A 250 27 = iN ft ∧ ft < 7 := by
  obtain ⟨-, -, ⟨vm, st, he, hv⟩, -⟩ := h
  exact ⟨he.2.1.2.1, he.2.1.2.2.1⟩
theorem MR_0 (h : MR B sl dat q s 0 A) : gI A 250 27 = 0 := (MR_f h).1
theorem MR_n (h : MR B sl dat q s ft A) (h0 : ft ≠ 0) : ¬ gI A 250 27 = 0 := by
  obtain ⟨h1, h2⟩ := MR_f h
  rw [h1, show (0 : Int32) = iN 0 from rfl, iN_eq (by omega) (by omega)]
  exact h0
theorem ElM_of (h : MmM A s) : ElM A (rMr s) (rMc s) (elS (rMr s) (rMc s) (rMe s)) := by
  intro m hm
  obtain ⟨h1, h2, h3, h4, h5⟩ := h m hm
  refine ⟨h1, h2, h3, h4, fun x y => ?_⟩
  unfold elS
  cases hp : plM (rMr s m) (rMc s m) (FP.d2l x) (FP.d2l y) with
  | none => rfl
  | some i =>
    unfold plM at hp
    split at hp
    · rename_i hc
      have e := Option.some.inj hp
      obtain ⟨g1, g2⟩ := h5 ((FP.d2l x).toInt.toNat - 1) ((FP.d2l y).toInt.toNat - 1) (by omega) (by omega)
      rw [e] at g1 g2
      exact ⟨_, rfl, g1, g2⟩
    · cases hp
/-- an expression worked out -/
theorem r_ev {p : Nat} {os : List SOp} {K : UInt64 → Mem → Prop} (hW : MW B) (h : MR B sl dat q s 0 A) (hC : CdM A p os) (hG : GdE os) (hP : PGd os) (k1 : ∀ v v' A', evS s os = .ok v → dz v v' → okd v → MR B sl dat q s 0 A' → K v' A') (k2 : ∀ f A', evS s os = .error f → f ≠ 0 → MR B sl dat q s f A' → K FP.dconst0 A') : wp_Mo_work 250 (iN p) A K := by
  have h' := h
  obtain ⟨hF, -, ⟨vm, st, he, hv⟩, hm, hf, -⟩ := h'
  exact m_work (MW_M hW hF) (ElM_of hm) hf hG (fun x hx => (hP.1 x hx).2) hP.2.2 hv hC he ⟨fun v hv' v' st' A' hd ho hc => k1 v v' A' hv' hd ho (MR_ev h hv hc), fun f hf' f0 st' A' hc => k2 f A' hf' f0 (MR_ev h hv hc)⟩
/-- the words of the reference's own cell -/
theorem MW_R (hW : MW B) (h : MFr B A) : (∀ j, 8 ≤ j → j ≤ 15 → gR A 250 j = 243 + j) ∧ ∀ j, 28 ≤ j → j ≤ 44 → gR A 250 j = 231 + j := MW_M hW h
theorem slI_lt (hP : PMs A P sl) {i : Nat} (hi : i < P.length) : ∃ k, sl[i]? = some k ∧ slI sl i = iN k ∧ k < 24 ∧ gI A 253 k = (P[i]).1 := by
  obtain ⟨k, h1, h2, h3⟩ := slot_of hP hi
  exact ⟨k, h1, by unfold slI; rw [h1], h2, h3⟩
theorem slI_ge (hP : PMs A P sl) {i : Nat} (hi : P.length ≤ i) : slI sl i = -1 := by
  unfold slI
  rw [List.getElem?_eq_none (by rw [hP.1]; exact hi)]
theorem i32_tr {a b c : Int32} (h1 : a ≤ b) (h2 : b ≤ c) : a ≤ c := Int32.le_trans h1 h2
theorem i32_nl {a b : Int32} (h : ¬ a ≤ b) : b < a := Int32.not_le.mp h
theorem i32_ln {a b : Int32} (h : b < a) : ¬ a ≤ b := Int32.not_le.mpr h
/-- the slot of the next line -/
theorem y_next {v : Int32} {i : Nat} {K : Int32 → Mem → Prop} (hW : MW A) (hs : Psr P) (hP : PMs A P sl) (hl : P.length ≤ 24) (hv : 0 ≤ v) (h1 : ∀ j (hj : j < P.length), j < i → (P[j]).1 ≤ v) (h2 : ∀ j (hj : j < P.length), i ≤ j → v < (P[j]).1) (k : K (slI sl i) A) : wp_Mo_nextSlot 250 v A K := by
  have h2' := hP
  obtain ⟨p1, p2, p3, p4, p5⟩ := h2'
  have fin : ∀ x2 : Int32, ((x2 = -1 ∧ ∀ j, j < 24 → gI A 253 j ≤ v) ∨ ∃ b, b < 24 ∧ x2 = iN b ∧ v < gI A 253 b ∧ ∀ j, j < 24 → v < gI A 253 j → gI A 253 b ≤ gI A 253 j) → K x2 A := by
    intro x2 hx
    rcases hx with ⟨e, hn⟩ | ⟨b, hb, e, hvb, hmin⟩
    · by_cases hi : i < P.length
      · obtain ⟨c, c1, c2, c3⟩ := slot_of hP hi
        have := hn c c2
        rw [c3] at this
        exact absurd this (i32_ln (h2 i hi (Nat.le_refl _)))
      · rw [slI_ge hP (by omega)] at k
        rw [e]; exact k
    · have hb0 : 0 < gI A 253 b := Int32.lt_of_le_of_lt hv hvb
      obtain ⟨j, d, g1, g2⟩ := slot_lt hP hb0 hb rfl
      have hj := (List.getElem?_eq_some_iff.mp g2).1
      have hPj : (P[j]).1 = gI A 253 b := by rw [(List.getElem?_eq_some_iff.mp g2).2]
      have hij : i ≤ j := by
        by_cases hc : j < i
        · have := h1 j hj hc
          rw [hPj] at this
          exact absurd this (i32_ln hvb)
        · omega
      have hi : i < P.length := by omega
      obtain ⟨c, c1, c2, c3⟩ := slot_of hP hi
      have hji : j = i := by
        by_cases hc : j = i
        · exact hc
        · have h3 := List.pairwise_iff_getElem.mp hs.2 i j hi hj (by omega)
          have h4 := hmin c c2 (by rw [c3]; exact h2 i hi (Nat.le_refl _))
          rw [c3, ← hPj] at h4
          exact absurd h4 (i32_ln h3)
      subst hji
      have : slI sl j = iN b := by unfold slI; rw [g1]
      rw [this] at k
      rw [e]; exact k
  have lp : ∀ (n i fu : Nat) (x2 : Int32), i + n = 24 → n < fu → ((x2 = -1 ∧ ∀ j, j < i → gI A 253 j ≤ v) ∨ ∃ b, b < 24 ∧ x2 = iN b ∧ v < gI A 253 b ∧ ∀ j, j < i → v < gI A 253 j → gI A 253 b ≤ gI A 253 j) → wp_Mo_nextSlot_c4 K fu 250 v x2 (iN i) A := by
    intro n
    induction n with
    | zero =>
      intro i fu x2 hi hfu hx
      obtain ⟨fu, rfl⟩ : ∃ g, fu = g + 1 := ⟨fu - 1, by omega⟩
      have hi : i = 24 := by omega
      subst hi
      exact ⟨fun _ => fin x2 hx, fun q => absurd (show (24 : Int32) ≤ iN 24 by decide) q⟩
    | succ n ih =>
      intro i fu x2 hi hfu hx
      obtain ⟨fu, rfl⟩ : ∃ g, fu = g + 1 := ⟨fu - 1, by omega⟩
      unfold wp_Mo_nextSlot_c4
      rw [hW.1 10 (by omega) (by omega), iN_cl (show i < 2147483648 by omega), show (24 : Int32) = iN 24 from rfl, iN_le (by omega) (by omega), iN_1]
      refine ⟨fun q => by omega, fun _ => ⟨rfl, rfl, iN_in (m := 25) (by omega) (by omega), fun hle => ?_, fun hgt => ⟨fun hneg => ?_, fun hnn => ?_⟩⟩⟩
      · refine ih (i + 1) fu x2 (by omega) (by omega) ?_
        rcases hx with ⟨e, hn⟩ | ⟨b, hb, e, hvb, hmin⟩
        · exact Or.inl ⟨e, fun j hj => by
            by_cases hj2 : j = i
            · rw [hj2]; exact hle
            · exact hn j (by omega)⟩
        · exact Or.inr ⟨b, hb, e, hvb, fun j hj hvj => by
            by_cases hj2 : j = i
            · rw [hj2] at hvj; exact absurd hle (i32_ln hvj)
            · exact hmin j (by omega) hvj⟩
      · refine ih (i + 1) fu (iN i) (by omega) (by omega) (Or.inr ⟨i, by omega, rfl, i32_nl hgt, fun j hj hvj => ?_⟩)
        rcases hx with ⟨e, hn⟩ | ⟨b, hb, e, hvb, hmin⟩
        · by_cases hj2 : j = i
          · rw [hj2]; exact Int32.le_refl _
          · exact absurd (hn j (by omega)) (i32_ln hvj)
        · rw [e, show (0 : Int32) = iN 0 from rfl, iN_lt (by omega) (by omega)] at hneg
          omega
      · rcases hx with ⟨e, hn⟩ | ⟨b, hb, e, hvb, hmin⟩
        · rw [e] at hnn; exact absurd (by decide) hnn
        · rw [e, iN_cl (show b < 2147483648 by omega)]
          refine ⟨iN_in (m := 25) (by omega) (by omega), fun hle => ?_, fun hlt => ?_⟩
          · refine ih (i + 1) fu (iN b) (by omega) (by omega) (Or.inr ⟨b, hb, rfl, hvb, fun j hj hvj => ?_⟩)
            by_cases hj2 : j = i
            · rw [hj2]; exact hle
            · exact hmin j (by omega) hvj
          · refine ih (i + 1) fu (iN i) (by omega) (by omega) (Or.inr ⟨i, by omega, rfl, i32_nl hgt, fun j hj hvj => ?_⟩)
            by_cases hj2 : j = i
            · rw [hj2]; exact Int32.le_refl _
            · exact i32_tr (Int32.le_of_lt (i32_nl hlt)) (hmin j (by omega) hvj)
  exact ⟨25, lp 24 0 25 (-1) rfl (by omega) (Or.inl ⟨rfl, fun j hj => by omega⟩)⟩
/-- the slot behind that of place i -/
theorem y_nextS {i c : Nat} {K : Int32 → Mem → Prop} (hW : MW A) (hs : Psr P) (hP : PMs A P sl) (hl : P.length ≤ 24) (hi : i < P.length) (hc : sl[i]? = some c) (k : K (slI sl (i + 1)) A) : wp_Mo_nextSlot 250 (gI A 253 c) A K := by
  obtain ⟨c', c1, c2, c3⟩ := slot_of hP hi
  have : c = c' := Option.some.inj (hc.symm.trans c1)
  subst this
  rw [c3]
  have hsr := List.pairwise_iff_getElem.mp hs.2
  refine y_next hW hs hP hl (Int32.le_of_lt (hs.1 _ (List.getElem_mem hi))) (fun j hj hji => ?_) (fun j hj hji => ?_) k
  · by_cases he : j = i
    · subst he; exact Int32.le_refl _
    · exact Int32.le_of_lt (hsr j i hj hi (by omega))
  · exact hsr i j hi hj (by omega)
theorem y_next0 {K : Int32 → Mem → Prop} (hW : MW A) (hs : Psr P) (hP : PMs A P sl) (hl : P.length ≤ 24) (k : K (slI sl 0) A) : wp_Mo_nextSlot 250 0 A K :=
  y_next hW hs hP hl (by decide) (fun j _ hj => by omega) (fun j hj _ => hs.1 _ (List.getElem_mem hj)) k
/-- a line's slot by its number -/
theorem y_find {v : Int32} {K : Int32 → Mem → Prop} (hW : MW A) (hs : Psr P) (hP : PMs A P sl) (hv : 0 < v) (k1 : ∀ j, fnd P v 0 = some j → K (slI sl j) A) (k0 : fnd P v 0 = none → K (-1) A) : wp_Mo_slotOf 250 v A K := by
  refine y_slot hW (fun k hk he hm => ?_) (fun hn => ?_)
  · obtain ⟨i, d, g1, g2⟩ := slot_lt hP hv hk he
    have hi := (List.getElem?_eq_some_iff.mp g2).1
    have hPi : (P[i]).1 = v := by rw [(List.getElem?_eq_some_iff.mp g2).2]
    cases hf : fnd P v 0 with
    | none => exact absurd hPi (fnd_none P v 0 hf _ (List.getElem_mem hi))
    | some j =>
      obtain ⟨hj, hPj⟩ := fnd_get P v hf
      have hij : i = j := by
        have hsr := List.pairwise_iff_getElem.mp hs.2
        by_cases h1 : i < j
        · have := hsr i j hi hj h1
          rw [hPi, hPj] at this
          exact (Int32.lt_irrefl this).elim
        · by_cases h2 : j < i
          · have := hsr j i hj hi h2
            rw [hPi, hPj] at this
            exact (Int32.lt_irrefl this).elim
          · omega
      have := k1 j hf
      unfold slI at this
      rw [← hij, g1] at this
      exact this
  · refine k0 ?_
    cases hf : fnd P v 0 with
    | none => rfl
    | some j =>
      obtain ⟨hj, hPj⟩ := fnd_get P v hf
      obtain ⟨c, c1, c2, c3⟩ := slot_of hP hj
      exact absurd (c3.trans hPj) (hn c c2)
end RM1
