/-! statics, enums, texts, Math, copies, references in arrays -/
section GM
variable {X : CXT} {E : EVT} {own : String} {cc : ByteArray} {A : Mem} {pc : Nat} {lv : List (Nat × Value)} {rest : List Value} {F Q : Nat}
def isS (x : Nat) : Prop := 2000 ≤ x ∧ x < 2044
def isSB (x : Nat) : Prop := 2100 ≤ x ∧ x < 2144
theorem gSF (hX : Gd X E own cc) : SF E (xs X) (xs X).heap := hX.2.2.2.2.2.1.2.2.2.1.1
theorem g_gets (hX : Gd X E own cc) {C n d : String} {index : Nat} {v : Value} (hz : va_Z C n d v (eA E) (xs X) (xs X).heap) (hl : Cond.fieldLink own index C n d ∈ gtb) (hd : decode cc pc = .ok (.getstatic index, 3)) (k : G X E A (pc + 3) lv (v :: rest)) : G X E A pc lv rest :=
  fun H locs ls h1 h2 h3 => va_gets hX.1 hX.2.1 hz h2 hX.2.2.2.1 (hX.2.2.2.2.1 _ hl) (fun _ h => h) hd (k H locs ls h1 h2 h3)
theorem g_getsE (hX : Gd X E own cc) {C d : String} {nm : List String} {b i r index : Nat} (he : enF C d nm b E (xs X) (xs X).heap) (hi : i < nm.length) (hr : b + i = r) (h0 : r ≠ 0) (hl : Cond.fieldLink own index C (nm.getD i "") d ∈ gtb) (hd : decode cc pc = .ok (.getstatic index, 3)) (k : G X E A (pc + 3) lv (cr E r :: rest)) : G X E A pc lv rest := by
  subst hr
  rw [cr_pos h0] at k
  exact g_gets hX (he i hi).1 hl hd k
theorem g_getsT (hX : Gd X E own cc) {n : String} {t index : Nat} {l : List Int32} (ht : tbF n t l E (xs X) (xs X).heap) (h0 : t ≠ 0) (hl : Cond.fieldLink own index "BasicMachine$1" n "[I" ∈ gtb) (hd : decode cc pc = .ok (.getstatic index, 3)) (k : G X E A (pc + 3) lv (cr E t :: rest)) : G X E A pc lv rest := by
  rw [cr_pos h0] at k
  exact g_gets hX ht.1 hl hd k
theorem g_tabld (hX : Gd X E own cc) {n : String} {t : Nat} {l : List Int32} (ht : tbF n t l E (xs X) (xs X).heap) (h0 : t ≠ 0) {i : Int32} (hin : vp_in i l.length) (hd : decode cc pc = .ok (.iaload, 1)) (k : G X E A (pc + 1) lv (.int (l.getD i.toNatClampNeg 0) :: rest)) : G X E A pc lv (.int i :: cr E t :: rest) := by
  rw [cr_pos h0]
  exact fun H locs ls h1 h2 h3 => va_ti hX.1 hX.2.1 ht.2 h2 hin rfl hd (k H locs ls h1 h2 h3)
theorem g_getsA (hX : Gd X E own cc) {index : Nat} {host : String} (hl : Cond.fieldLinkNest own index "BasicMachine" "STATEMENTS" "[LBasicMachine$Statement;" host ∈ nestW) (hd : decode cc pc = .ok (.getstatic index, 3)) (k : G X E A (pc + 3) lv (cr E 1303 :: rest)) : G X E A pc lv rest := by
  rw [cr_pos (by decide)] at k
  intro H locs ls h1 h2 h3
  exact va_getsN hX.1 hX.2.1 (gSF hX).2.2.2.2.2.2.2.2.1.1 h2 hX.2.2.2.1 (va_Nw.use rfl (hX.2.2.2.2.2.1.2.2.2.2.1 _ hl)) (fun _ h => h) hd (k H locs ls h1 h2 h3)
theorem g_salen (hX : Gd X E own cc) (hd : decode cc pc = .ok (.arraylength, 1)) (k : G X E A (pc + 1) lv (.int 17 :: rest)) : G X E A pc lv (cr E 1303 :: rest) := by
  rw [cr_pos (by decide)]
  exact fun H locs ls h1 h2 h3 => va_tlen hX.1 hX.2.1 (gSF hX).2.2.2.2.2.2.2.2.1.2 h2 rfl hd (k H locs ls h1 h2 h3)
theorem g_sald (hX : Gd X E own cc) {i : Int32} (hin : vp_in i 17) (hd : decode cc pc = .ok (.aaload, 1)) (k : G X E A (pc + 1) lv (cr E (1000 + i.toNatClampNeg) :: rest)) : G X E A pc lv (.int i :: cr E 1303 :: rest) := by
  rw [cr_pos (by omega)] at k
  rw [cr_pos (by decide)]
  exact fun H locs ls h1 h2 h3 => vb_tq hX.1 hX.2.1 (gSF hX).2.2.2.2.2.2.2.2.1.2 h2 hin rfl hd (k H locs ls h1 h2 h3)
theorem g_getW (hX : Gd X E own cc) {index r : Nat} (hr : 1000 ≤ r ∧ r < 1017) (hl : Cond.fieldLink own index "BasicMachine$Statement" "word" "Ljava/lang/String;" ∈ gtb) (hd : decode cc pc = .ok (.getfield index, 3)) (k : G X E A (pc + 3) lv (cr E (2000 + wdS.getD (r - 1000) 0) :: rest)) : G X E A pc lv (cr E r :: rest) := by
  rw [cr_pos (by omega)] at k
  rw [cr_pos (by omega)]
  have hw := (gSF hX).2.2.2.2.2.2.2.1 (r - 1000) (by omega)
  rw [show 1000 + (r - 1000) = r by omega] at hw
  exact fun H locs ls h1 h2 h3 => vk_getf hX.1 hX.2.1 hw h2 hX.2.2.2.1 (hX.2.2.2.2.1 _ hl) (fun _ h => h) hd (k H locs ls h1 h2 h3)
-- texts
theorem g_getSV (hX : Gd X E own cc) {index r : Nat} (hr : isS r) (hl : Cond.fieldLink own index "java/lang/String" "value" "[B" ∈ gtb) (hd : decode cc pc = .ok (.getfield index, 3)) (k : G X E A (pc + 3) lv (cr E (r + 100) :: rest)) : G X E A pc lv (cr E r :: rest) := by
  obtain ⟨ha, hb⟩ := hr
  rw [cr_pos (by omega)] at k
  rw [cr_pos (by omega)]
  have hw := ((gSF hX).2.2.2.2.2.2.1 (r - 2000) (by omega)).2.2.1
  rw [show 2000 + (r - 2000) = r by omega, show 2100 + (r - 2000) = r + 100 by omega] at hw
  exact fun H locs ls h1 h2 h3 => vk_getf hX.1 hX.2.1 hw h2 hX.2.2.2.1 (hX.2.2.2.2.1 _ hl) (fun _ h => h) hd (k H locs ls h1 h2 h3)
theorem g_getSC (hX : Gd X E own cc) {index r : Nat} (hr : isS r) (hl : Cond.fieldLink own index "java/lang/String" "coder" "B" ∈ gtb) (hd : decode cc pc = .ok (.getfield index, 3)) (k : G X E A (pc + 3) lv (.int 0 :: rest)) : G X E A pc lv (cr E r :: rest) := by
  obtain ⟨ha, hb⟩ := hr
  rw [cr_pos (by omega)]
  have hw := ((gSF hX).2.2.2.2.2.2.1 (r - 2000) (by omega)).2.1
  rw [show 2000 + (r - 2000) = r by omega] at hw
  exact fun H locs ls h1 h2 h3 => vk_getf hX.1 hX.2.1 hw h2 hX.2.2.2.1 (hX.2.2.2.2.1 _ hl) (fun _ h => h) hd (k H locs ls h1 h2 h3)
theorem g_sblen (hX : Gd X E own cc) {r : Nat} (hr : isSB r) (hd : decode cc pc = .ok (.arraylength, 1)) (k : G X E A (pc + 1) lv (.int (Int32.ofNat (lenS.getD (r - 2100) 0)) :: rest)) : G X E A pc lv (cr E r :: rest) := by
  obtain ⟨ha, hb⟩ := hr
  rw [cr_pos (by omega)]
  have hw := ((gSF hX).2.2.2.2.2.2.1 (r - 2100) (by omega)).2.2.2
  rw [show 2100 + (r - 2100) = r by omega] at hw
  exact fun H locs ls h1 h2 h3 => va_tlen hX.1 hX.2.1 hw h2 rfl hd (k H locs ls h1 h2 h3)
theorem g_sbld (hX : Gd X E own cc) {r : Nat} {i : Int32} (hr : isSB r) (hin : vp_in i (lenS.getD (r - 2100) 0)) (hd : decode cc pc = .ok (.baload, 1)) (k : G X E A (pc + 1) lv (.int ((bytS.getD (r - 2100) []).getD i.toNatClampNeg 0) :: rest)) : G X E A pc lv (.int i :: cr E r :: rest) := by
  obtain ⟨ha, hb⟩ := hr
  rw [cr_pos (by omega)]
  have hw := ((gSF hX).2.2.2.2.2.2.1 (r - 2100) (by omega)).2.2.2
  rw [show 2100 + (r - 2100) = r by omega] at hw
  exact fun H locs ls h1 h2 h3 => va_tb hX.1 hX.2.1 hw h2 hin rfl hd (k H locs ls h1 h2 h3)
theorem g_getFm (hX : Gd X E own cc) {index : Nat} (hl : Cond.fieldLink own index "jdk/internal/util/Preconditions" "SIOOBE_FORMATTER" "Ljava/util/function/BiFunction;" ∈ gtb) (hd : decode cc pc = .ok (.getstatic index, 3)) (k : ∀ r : Nat, G X E A (pc + 3) lv (cr E r :: rest)) : G X E A pc lv rest := by
  rcases (gSF hX).2.2.2.2.2.2.2.2.2.2 with h | h
  · exact g_gets hX h hl hd (k 0)
  · have k2 := k 2999
    rw [cr_pos (by decide)] at k2
    exact g_gets hX h hl hd k2
theorem g_ldcS (hX : Gd X E own cc) {index i r : Nat} {tx : String} (hs : (own, index, tx, i) ∈ strL) (hr : 2000 + i = r) (hd : decode cc pc = .ok (.ldc index, 2)) (k : G X E A (pc + 2) lv (cr E r :: rest)) : G X E A pc lv rest := by
  subst hr
  rw [cr_pos (by omega)] at k
  exact fun H locs ls h1 h2 h3 => va_ldcS hX.1 hX.2.1 hX.2.2.2.1 (hX.2.2.2.2.2.1.2.2.2.2.2 _ hs) hd (k H locs ls h1 h2 h3)
theorem ldcStringW {p : Program} {l : Launch} {e : Env} {R : Room} {s : State} {m : MethodId} {args : Array Value} {below : List Frame} {meth : Method} {c : Code} {T : State} {locs : List Loc} {cells slots : Nat}
    (X : Stand p l e R s m args below meth c T locs cells slots) (hexec : p.tables.exec = Jvm.exec) {own text : String} {index : Nat} {a : Addr} (hown : s.vm.findClass own = some m.cls)
    (hconst : (Cond.stringRef own index text).before args s = true) (hev : (Term.string own index).eval args s none [] s = some (.ref a)) {g : JFrame} (hg : g.method = m) (hdg : decode c.code g.pc = .ok (.ldc_w index, 3)) :
    ∀ target, Steps p.tables e below (T.setTop { g with pc := g.pc + 3, stack := .ref a :: g.stack }) target → Steps p.tables e below (T.setTop g) target := by
  obtain ⟨k, cf, i, a', hk, hcf, hcp, -, hr, hev'⟩ := Cond.stringRef_spec hown hconst
  cases hev.symm.trans hev'
  obtain ⟨k', hk', he⟩ := X.warmed.alike.2.2 _ _ hk
  have hr' : k'.resolved[index]? = some (some (.string a)) := by
    rcases X.warmed.entry hk hk' index with h | ⟨h, -⟩
    · rw [h]; exact hr
    · rw [hr] at h; cases h
  intro target hrest
  subst hg
  jvm_step X.here [hexec, hdg, ldc_w.wp_string (e := e) (s := T) (f := g) X.here.top hk' (by rw [he]; exact hcf) hcp hr']
  exact hrest
theorem g_ldcwS (hX : Gd X E own cc) {index i r : Nat} {tx : String} (hs : (own, index, tx, i) ∈ strL) (hr : 2000 + i = r) (hd : decode cc pc = .ok (.ldc_w index, 3)) (k : G X E A (pc + 3) lv (cr E r :: rest)) : G X E A pc lv rest := by
  subst hr
  rw [cr_pos (by omega)] at k
  intro H locs ls h1 h2 h3
  have hZ := hX.2.2.2.2.2.1.2.2.2.2.2 _ hs
  intro T hT X9
  obtain ⟨t, a1, b1⟩ := k H locs ls h1 h2 h3 T hT X9
  exact ⟨t, ldcStringW X9 hX.1 hX.2.2.2.1 (text := tx) (a := ead E (2000 + i)) hZ.1 hZ.2 (g := F0 (xm X) pc ls rest) rfl (by rw [hX.2.1]; exact hd) t a1, b1⟩
theorem g_ishr (hX : Gd X E own cc) {x y : Int32} (hd : decode cc pc = .ok (.ishr, 1)) (k : G X E A (pc + 1) lv (.int (x >>> (y &&& 31)) :: rest)) : G X E A pc lv (.int y :: .int x :: rest) := fun H locs ls h1 h2 h3 => lv_ishr hX.1 hX.2.1 hd (k H locs ls h1 h2 h3)
-- comparing references
theorem ro_eq {E : EVT} (h : EO E) {i j : Nat} (hi : enk i) (hj : enk j) : ro E i = ro E j ↔ i = j := by
  have hp : ∀ k, enk k → k ≠ 0 := fun k hk => by rcases hk with h | h | h <;> omega
  unfold ro
  rw [if_neg (hp i hi), if_neg (hp j hj)]
  exact ⟨fun e => h.2.2 i j hi hj (Option.some.inj e), fun e => by rw [e]⟩
theorem g_acmp_eq (hX : Gd X E own cc) {i j : Nat} (hi : enk i) (hj : enk j) {off : Int} {tgt : Nat} (hd : decode cc pc = .ok (.if_acmp .eq off, 3)) (ht : (pc : Int) + off = (tgt : Int)) (kt : i = j → G X E A tgt lv rest) (kf : ¬ i = j → G X E A (pc + 3) lv rest) : G X E A pc lv (cr E j :: cr E i :: rest) :=
  fun H locs ls h1 h2 h3 => lv_acmp_eq hX.1 hX.2.1 hd ht (fun q => kt ((ro_eq hX.2.2.2.2.2.1.1 hi hj).mp q) H locs ls h1 h2 h3) (fun q => kf (fun z => q ((ro_eq hX.2.2.2.2.2.1.1 hi hj).mpr z)) H locs ls h1 h2 h3)
theorem g_acmp_ne (hX : Gd X E own cc) {i j : Nat} (hi : enk i) (hj : enk j) {off : Int} {tgt : Nat} (hd : decode cc pc = .ok (.if_acmp .ne off, 3)) (ht : (pc : Int) + off = (tgt : Int)) (kt : ¬ i = j → G X E A tgt lv rest) (kf : i = j → G X E A (pc + 3) lv rest) : G X E A pc lv (cr E j :: cr E i :: rest) :=
  fun H locs ls h1 h2 h3 => lv_acmp_ne hX.1 hX.2.1 hd ht (fun q => kt (fun z => q ((ro_eq hX.2.2.2.2.2.1.1 hi hj).mpr z)) H locs ls h1 h2 h3) (fun q => kf ((ro_eq hX.2.2.2.2.2.1.1 hi hj).mp q) H locs ls h1 h2 h3)
-- references in arrays of Lines
theorem g_aastore (hX : Gd X E own cc) {x v : Nat} {i : Int32} (hk : kd x = 55) (hv : v = 0 ∨ kd v = 3) (hin : vp_in i (al x)) (hd : decode cc pc = .ok (.aastore, 1)) (k : G X E (sR A x i.toNatClampNeg v) (pc + 1) lv rest) : G X E A pc lv (cr E v :: .int i :: cr E x :: rest) := by
  have hx0 : x ≠ 0 := by
    rintro rfl
    exact absurd hk (by decide)
  intro H locs ls h1 h2 h3
  obtain ⟨q0, e1, e2⟩ := ws_at E A (show kd x ≠ 0 by omega)
  rw [cr_pos hx0]
  have e3 : ent E A x = .inl (ecA E 55, al x, .inr (.inr (.inr (.inr (fun j => ro E (gR A x j)))))) := by unfold ent; rw [hk]; rfl
  have e5 : (fun j => ro E (gR (sR A x i.toNatClampNeg v) x j)) = va_up (fun j => ro E (gR A x j)) i.toNatClampNeg (ro E v) := by
    funext b
    by_cases hb : b = i.toNatClampNeg
    · subst hb
      simp [gR, sR, up2, va_up]
    · simp [gR, sR, up2, va_up, hb]
  have e4 : ent E (sR A x i.toNatClampNeg v) x = .inl (ecA E 55, al x, .inr (.inr (.inr (.inr (va_up (fun j => ro E (gR A x j)) i.toNatClampNeg (ro E v)))))) := by
    unfold ent
    rw [hk]
    show (Sum.inl (ecA E 55, al x, .inr (.inr (.inr (.inr (fun j => ro E (gR (sR A x i.toNatClampNeg v) x j)))))) : va_E) = _
    rw [e5]
  rw [e3] at e2
  obtain ⟨hx, hb, hml, hown, hts, ⟨hEO, hK, hB, hSF⟩, hlk⟩ := hX
  by_cases hv0 : v = 0
  · subst hv0
    refine va_astqN (D := eD E) (cl := cls) hx hb hK h1 (ws_D hEO A) h2 q0 4 e2 rfl hin hd (fun H1 locs1 hP hD hS => ?_)
    rw [show (none : Option Nat) = ro E 0 from rfl, ws_set E e1 (entR E) e4] at hP
    exact k H1 locs1 ls hP hS h3
  · have hv3 : kd v = 3 := hv.resolve_left hv0
    obtain ⟨q1, g1, g2⟩ := ws_at E A (show kd v ≠ 0 by omega)
    have e6 : ent E A v = .inr (2, (List.range (nf (kd v))).map (fun i => fv E A v i (fts (kd v) i))) := by unfold ent; rw [if_pos (by omega), hv3]
    rw [e6] at g2
    rw [cr_pos hv0]
    refine va_astq (D := eD E) (cl := cls) (ci := 2) (r := ("BasicMachine$Line", fT3, nf 3)) hx hb hK h1 (ws_D hEO A) h2 q0 4 q1 e2 rfl g2 rfl hin hd (fun H1 locs1 hP hD hS => ?_)
    have e7 : ro E v = some (ead E v) := by unfold ro; rw [if_neg hv0]
    rw [← e7, ws_set E e1 (entR E) e4] at hP
    exact k H1 locs1 ls hP hS h3
-- System.arraycopy of doubles
def cpD (A : Mem) (a : Nat) (sp : Int32) (b : Nat) (dp n : Int32) : Mem := (A.1, fun o i => if o = b then va_cpy (gD A a) (gD A b) sp.toNatClampNeg dp.toNatClampNeg n.toNatClampNeg i else A.2.1 o i, A.2.2)
theorem g_acopyD (hX : Gd X E own cc) (hR : Rm X F Q) {a b index : Nat} {sp dp n : Int32} (hl : Cond.methodLink own index arraycopyName ∈ gtb) (hw : Cond.native arraycopyName ∈ gtb ∧ Cond.static arraycopyName ∈ gtb ∧ Cond.initialized "java/lang/System" ∈ gtb) (ha : kd a = 53) (hb2 : kd b = 53) (h4 : ¬ sp < 0 ∧ ¬ dp < 0 ∧ ¬ n < 0 ∧ sp.toNatClampNeg + n.toNatClampNeg ≤ al a ∧ dp.toNatClampNeg + n.toNatClampNeg ≤ al b) (hF : 1 ≤ F) (hQ : (rest.map fun v => v.category).sum + (nativeFrameWords "java/lang/System" "arraycopy" 5 + 11) ≤ Q) (hd : decode cc pc = .ok (.invokestatic index, 3)) (k : G X E (cpD A a sp b dp n) (pc + 3) lv rest) : G X E A pc lv (.int n :: .int dp :: cr E b :: .int sp :: cr E a :: rest) := by
  have ha0 : a ≠ 0 := by
    rintro rfl
    exact absurd ha (by decide)
  have hb0 : b ≠ 0 := by
    rintro rfl
    exact absurd hb2 (by decide)
  intro H locs ls h1 h2 h3
  obtain ⟨q0, e1, e2⟩ := ws_at E A (show kd a ≠ 0 by omega)
  obtain ⟨q1, g1, g2⟩ := ws_at E A (show kd b ≠ 0 by omega)
  rw [cr_pos ha0, cr_pos hb0]
  have e3 : ent E A a = .inl (ecA E 53, al a, .inr (.inr (.inr (.inl (gD A a))))) := by unfold ent; rw [ha]; rfl
  have g3 : ent E A b = .inl (ecA E 53, al b, .inr (.inr (.inr (.inl (gD A b))))) := by unfold ent; rw [hb2]; rfl
  have g4 : ent E (cpD A a sp b dp n) b = .inl (ecA E 53, al b, .inr (.inr (.inr (.inl (va_cpy (gD A a) (gD A b) sp.toNatClampNeg dp.toNatClampNeg n.toNatClampNeg))))) := by
    have e5 : gD (cpD A a sp b dp n) b = va_cpy (gD A a) (gD A b) sp.toNatClampNeg dp.toNatClampNeg n.toNatClampNeg := by
      funext i
      simp [gD, cpD]
    unfold ent
    rw [hb2]
    show (Sum.inl (ecA E 53, al b, .inr (.inr (.inr (.inl (gD (cpD A a sp b dp n) b))))) : va_E) = _
    rw [e5]
  have g5 : ∀ j, j ≠ b → ent E (cpD A a sp b dp n) j = ent E A j := by
    intro j hj
    have e : gD (cpD A a sp b dp n) j = gD A j := by
      funext i
      simp [gD, cpD, hj]
    have e2 : ∀ a9 t, fv E (cpD A a sp b dp n) j a9 t = fv E A j a9 t := by
      intro a9 t
      unfold fv
      split <;> first | rfl | exact congrArg Value.double (congrFun e a9)
    unfold ent
    simp only [e2, e]
    rfl
  rw [e3] at e2
  rw [g3] at g2
  obtain ⟨hx, hb, hml, hown, hts, ⟨hEO, hK, hB, hSF⟩, hlk⟩ := hX
  refine va_copyd (D := eD E) (cl := cls) hx hb (hml.trans h3.1.symm) hown (hts _ hl) (hts _ hw.1) (hts _ hw.2.1) (hts _ hw.2.2) hK h1 (ws_D hEO A) h2 q0 q1 2 2 e2 g2 rfl rfl rfl h4.1 h4.2.1 h4.2.2.1 h4.2.2.2.1 h4.2.2.2.2 (fun _ _ => rfl) (Nat.le_trans hF hR.1) (Nat.le_trans hQ hR.2.1) hd (fun H1 locs1 hP hD hS => ?_)
  rw [ws_set E g1 g5 g4] at hP
  exact k H1 locs1 ls hP hS h3
theorem g_mmax (hX : Gd X E own cc) (hR : Rm X F Q) {index : Nat} {x y : Int32} (hw : Cond.static Lib.Math.max.name ∈ gtb ∧ Cond.initialized "java/lang/Math" ∈ gtb ∧ Cond.code Lib.Math.max.name Lib.Math.max.code 2 (some .int) ∈ gtb) (hl : Cond.methodLink own index Lib.Math.max.name ∈ gtb) (hF : 1 ≤ F ∧ 21 ≤ Q) (hw4 : (rest.map fun v => v.category).sum ≤ 8) (hd : decode cc pc = .ok (.invokestatic index, 3)) (k : G X E A (pc + 3) lv (.int (if x < y then y else x) :: rest)) : G X E A pc lv (.int y :: .int x :: rest) :=
  fun H locs ls h1 h2 h3 => va_mmax hX.1 hX.2.1 (hX.2.2.1.trans h3.1.symm) hX.2.2.2.1 (hX.2.2.2.2.1 _ hl) (hX.2.2.2.2.1 _ hw.1) (hX.2.2.2.2.1 _ hw.2.1) (hX.2.2.2.2.1 _ hw.2.2) (Nat.le_trans hF.1 hR.1) (by have := hR.2.1; omega) hR.2.2.1 hR.2.2.2 hd (k H locs ls h1 h2 h3)
theorem g_mmin (hX : Gd X E own cc) (hR : Rm X F Q) {index : Nat} {x y : Int32} (hw : Cond.static Lib.Math.min.name ∈ gtb ∧ Cond.initialized "java/lang/Math" ∈ gtb ∧ Cond.code Lib.Math.min.name Lib.Math.min.code 2 (some .int) ∈ gtb) (hl : Cond.methodLink own index Lib.Math.min.name ∈ gtb) (hF : 1 ≤ F ∧ 21 ≤ Q) (hw4 : (rest.map fun v => v.category).sum ≤ 8) (hd : decode cc pc = .ok (.invokestatic index, 3)) (k : G X E A (pc + 3) lv (.int (if y < x then y else x) :: rest)) : G X E A pc lv (.int y :: .int x :: rest) :=
  fun H locs ls h1 h2 h3 => va_mmin hX.1 hX.2.1 (hX.2.2.1.trans h3.1.symm) hX.2.2.2.1 (hX.2.2.2.2.1 _ hl) (hX.2.2.2.2.1 _ hw.1) (hX.2.2.2.2.1 _ hw.2.1) (hX.2.2.2.2.1 _ hw.2.2) (Nat.le_trans hF.1 hR.1) (by have := hR.2.1; omega) hR.2.2.1 hR.2.2.2 hd (k H locs ls h1 h2 h3)
theorem g_mabs (hX : Gd X E own cc) (hR : Rm X F Q) {index : Nat} {x : Int32} (hw : Cond.static Lib.Math.abs.name ∈ gtb ∧ Cond.initialized "java/lang/Math" ∈ gtb ∧ Cond.code Lib.Math.abs.name Lib.Math.abs.code 1 (some .int) ∈ gtb) (hl : Cond.methodLink own index Lib.Math.abs.name ∈ gtb) (hF : 1 ≤ F ∧ 21 ≤ Q) (hw4 : (rest.map fun v => v.category).sum ≤ 8) (hd : decode cc pc = .ok (.invokestatic index, 3)) (k : G X E A (pc + 3) lv (.int (if 0 ≤ x then x else 0 - x) :: rest)) : G X E A pc lv (.int x :: rest) :=
  fun H locs ls h1 h2 h3 => va_mabs hX.1 hX.2.1 (hX.2.2.1.trans h3.1.symm) hX.2.2.2.1 (hX.2.2.2.2.1 _ hl) (hX.2.2.2.2.1 _ hw.1) (hX.2.2.2.2.1 _ hw.2.1) (hX.2.2.2.2.1 _ hw.2.2) (Nat.le_trans hF.1 hR.1) (by have := hR.2.1; omega) hR.2.2.1 hR.2.2.2 hd (k H locs ls h1 h2 h3)
theorem g_callVS_I (hX : Gd X E own cc) (hR : Rm X F Q) {y : MethodName} {bytes : ByteArray} {maxL index n fr lo : Nat} {Ax : EVT → List Value} {post : Int32 → Mem → Prop} {As st : List Value} {x : Nat} (hk : isS x) (hy : y.cls = "java/lang/String") (hl : Cond.methodLink own index y ∈ gtb) (hM : MFi y bytes maxL (some .int) n)
    (hc : CtI y bytes maxL fr lo (fun E9 => cr E9 x :: Ax E9) A post) (hAs : Ax E = As) (hst : st = As.reverse ++ cr E x :: rest) (hn : As.length = n) (hro : fr + 1 ≤ F ∧ maxL + 19 + lo ≤ Q) (hw4 : (rest.map fun v => v.category).sum ≤ 8) (hd : decode cc pc = .ok (.invokevirtual index, 3))
    (k : ∀ (r : Int32) (A9 : Mem), post r A9 → G X E A9 (pc + 3) lv (.int r :: rest)) : G X E A pc lv st := by
  subst hst; subst hAs
  have hx0 : x ≠ 0 := by obtain ⟨a9, b9⟩ := hk; omega
  intro H locs ls h1 h2 h3
  obtain ⟨hx, hb, hml, hown, hts, hEF, hlk⟩ := hX
  have hw9 := ((hEF.2.2.2.1.1.2.2.2.2.2.2.1 (x - 2000) (by obtain ⟨a9, b9⟩ := hk; omega)).1).kept h2.2.1
  rw [show 2000 + (x - 2000) = x by obtain ⟨a9, b9⟩ := hk; omega] at hw9
  obtain ⟨cell, q1, q2, q3, -⟩ := hw9
  rw [cr_pos hx0]
  have hpre : ∀ U : State, U.heap = H → (xs X).WarmedH U.vm → PcD E (cr E x :: Ax E) A (Value.ref (ead E x) :: Ax E).toArray U := fun U hU hW => ⟨by rw [cr_pos hx0], EF_mv hEF h2 hU hW, by rw [hU]; exact h1⟩
  have hroom : (Frm fr lo).frames + 1 ≤ (xR X).frames ∧ 8 + (maxL + 11) + (Frm fr lo).locals ≤ (xR X).locals := ⟨Nat.le_trans hro.1 hR.1, by have := hR.2.1; show 8 + (maxL + 11) + lo ≤ _; omega⟩
  have hw : 2 * 0 + (rest.map fun v => v.category).sum ≤ 8 := by omega
  exact va_calli (va_runV (As := Ax E) (rest := rest) ⟨hx, hb, hml, hown, hts⟩ (hc (xl X) E) (cwV n hts (lw_goodA (lw_goodc hl (lw_goodc hM.2.1 (lw_goodc hM.2.2.1 (lw_goodc hM.2.2.2.1 lw_good0)))) (lw_goodc hM.1 lw_good)) rfl rfl rfl ⟨rfl, hM.2.2.2.2⟩ hroom) ⟨PcD_blind E _ A, ⟨cell, q1, q2, by rw [hy]; exact q3⟩, hpre⟩ rfl hn h3.1 rfl hw hd ⟨hR.2.2.1, hR.2.2.2⟩) h2 (fun q _ h => h) (fun q h => h) (fun r u t H1 locs1 ht hvm hp hB hz1 hk1 hS => k r u hp H1 locs1 ls (by rw [← ht]; exact hB) hS h3)
theorem g_callVS_Z (hX : Gd X E own cc) (hR : Rm X F Q) {y : MethodName} {bytes : ByteArray} {maxL index n fr lo : Nat} {Ax : EVT → List Value} {post : Bool → Mem → Prop} {As st : List Value} {x : Nat} (hk : isS x) (hy : y.cls = "java/lang/String") (hl : Cond.methodLink own index y ∈ gtb) (hM : MFi y bytes maxL (some .boolean) n)
    (hc : CtZ y bytes maxL fr lo (fun E9 => cr E9 x :: Ax E9) A post) (hAs : Ax E = As) (hst : st = As.reverse ++ cr E x :: rest) (hn : As.length = n) (hro : fr + 1 ≤ F ∧ maxL + 19 + lo ≤ Q) (hw4 : (rest.map fun v => v.category).sum ≤ 8) (hd : decode cc pc = .ok (.invokevirtual index, 3))
    (k : ∀ (r : Bool) (A9 : Mem), post r A9 → G X E A9 (pc + 3) lv (.int (bI r) :: rest)) : G X E A pc lv st := by
  subst hst; subst hAs
  have hx0 : x ≠ 0 := by obtain ⟨a9, b9⟩ := hk; omega
  intro H locs ls h1 h2 h3
  obtain ⟨hx, hb, hml, hown, hts, hEF, hlk⟩ := hX
  have hw9 := ((hEF.2.2.2.1.1.2.2.2.2.2.2.1 (x - 2000) (by obtain ⟨a9, b9⟩ := hk; omega)).1).kept h2.2.1
  rw [show 2000 + (x - 2000) = x by obtain ⟨a9, b9⟩ := hk; omega] at hw9
  obtain ⟨cell, q1, q2, q3, -⟩ := hw9
  rw [cr_pos hx0]
  have hpre : ∀ U : State, U.heap = H → (xs X).WarmedH U.vm → PcD E (cr E x :: Ax E) A (Value.ref (ead E x) :: Ax E).toArray U := fun U hU hW => ⟨by rw [cr_pos hx0], EF_mv hEF h2 hU hW, by rw [hU]; exact h1⟩
  have hroom : (Frm fr lo).frames + 1 ≤ (xR X).frames ∧ 8 + (maxL + 11) + (Frm fr lo).locals ≤ (xR X).locals := ⟨Nat.le_trans hro.1 hR.1, by have := hR.2.1; show 8 + (maxL + 11) + lo ≤ _; omega⟩
  have hw : 2 * 0 + (rest.map fun v => v.category).sum ≤ 8 := by omega
  exact va_calli (va_runV (As := Ax E) (rest := rest) ⟨hx, hb, hml, hown, hts⟩ (hc (xl X) E) (cwV n hts (lw_goodA (lw_goodc hl (lw_goodc hM.2.1 (lw_goodc hM.2.2.1 (lw_goodc hM.2.2.2.1 lw_good0)))) (lw_goodc hM.1 lw_good)) rfl rfl rfl ⟨rfl, hM.2.2.2.2⟩ hroom) ⟨PcD_blind E _ A, ⟨cell, q1, q2, by rw [hy]; exact q3⟩, hpre⟩ rfl hn h3.1 rfl hw hd ⟨hR.2.2.1, hR.2.2.2⟩) h2 (fun q _ h => h) (fun q h => h) (fun r u t H1 locs1 ht hvm hp hB hz1 hk1 hS => by obtain ⟨b, rfl, hp⟩ := hp; exact k b u hp H1 locs1 ls (by rw [← ht]; exact hB) hS h3)
theorem g_callVS_N (hX : Gd X E own cc) (hR : Rm X F Q) {y : MethodName} {bytes : ByteArray} {maxL index n fr lo : Nat} {Ax : EVT → List Value} {rt : FieldType} {post : Int32 → Mem → Prop} {As st : List Value} {x : Nat} (hk : isS x) (hy : y.cls = "java/lang/String") (hl : Cond.methodLink own index y ∈ gtb) (hM : MFi y bytes maxL (some rt) n)
    (hc : CtN y bytes maxL rt fr lo (fun E9 => cr E9 x :: Ax E9) A post) (hAs : Ax E = As) (hst : st = As.reverse ++ cr E x :: rest) (hn : As.length = n) (hro : fr + 1 ≤ F ∧ maxL + 19 + lo ≤ Q) (hw4 : (rest.map fun v => v.category).sum ≤ 8) (hd : decode cc pc = .ok (.invokevirtual index, 3))
    (k : ∀ (r : Int32) (A9 : Mem), post r A9 → G X E A9 (pc + 3) lv (.int r :: rest)) : G X E A pc lv st := by
  subst hst; subst hAs
  have hx0 : x ≠ 0 := by obtain ⟨a9, b9⟩ := hk; omega
  intro H locs ls h1 h2 h3
  obtain ⟨hx, hb, hml, hown, hts, hEF, hlk⟩ := hX
  have hw9 := ((hEF.2.2.2.1.1.2.2.2.2.2.2.1 (x - 2000) (by obtain ⟨a9, b9⟩ := hk; omega)).1).kept h2.2.1
  rw [show 2000 + (x - 2000) = x by obtain ⟨a9, b9⟩ := hk; omega] at hw9
  obtain ⟨cell, q1, q2, q3, -⟩ := hw9
  rw [cr_pos hx0]
  have hpre : ∀ U : State, U.heap = H → (xs X).WarmedH U.vm → PcD E (cr E x :: Ax E) A (Value.ref (ead E x) :: Ax E).toArray U := fun U hU hW => ⟨by rw [cr_pos hx0], EF_mv hEF h2 hU hW, by rw [hU]; exact h1⟩
  have hroom : (Frm fr lo).frames + 1 ≤ (xR X).frames ∧ 8 + (maxL + 11) + (Frm fr lo).locals ≤ (xR X).locals := ⟨Nat.le_trans hro.1 hR.1, by have := hR.2.1; show 8 + (maxL + 11) + lo ≤ _; omega⟩
  have hw : 2 * 0 + (rest.map fun v => v.category).sum ≤ 8 := by omega
  exact va_calli (va_runV (As := Ax E) (rest := rest) ⟨hx, hb, hml, hown, hts⟩ (hc (xl X) E) (cwV n hts (lw_goodA (lw_goodc hl (lw_goodc hM.2.1 (lw_goodc hM.2.2.1 (lw_goodc hM.2.2.2.1 lw_good0)))) (lw_goodc hM.1 lw_good)) rfl rfl rfl ⟨rfl, hM.2.2.2.2⟩ hroom) ⟨PcD_blind E _ A, ⟨cell, q1, q2, by rw [hy]; exact q3⟩, hpre⟩ rfl hn h3.1 rfl hw hd ⟨hR.2.2.1, hR.2.2.2⟩) h2 (fun q _ h => h) (fun q h => h) (fun r u t H1 locs1 ht hvm hp hB hz1 hk1 hS => k r u hp H1 locs1 ls (by rw [← ht]; exact hB) hS h3)
/-- Enum.ordinal(), of a constant whose number is known -/
theorem g_getOrd (hX : Gd X E own cc) {index r : Nat} {v : Int32} (h0 : r ≠ 0) (hv : va_OF "java/lang/Enum" "ordinal" "I" (.int v) (ead E r) (eA E) (xs X) (xs X).heap) (hl : Cond.fieldLink own index "java/lang/Enum" "ordinal" "I" ∈ gtb) (hd : decode cc pc = .ok (.getfield index, 3)) (k : G X E A (pc + 3) lv (.int v :: rest)) : G X E A pc lv (cr E r :: rest) := by
  rw [cr_pos h0]
  exact fun H locs ls h1 h2 h3 => vk_getf hX.1 hX.2.1 hv h2 hX.2.2.2.1 (hX.2.2.2.2.1 _ hl) (fun _ h => h) hd (k H locs ls h1 h2 h3)
abbrev b_ord : ByteArray := prog_16_method_2_code
theorem c_ord (C d : String) (nm : List String) (b i : Nat) (hb : b ≠ 0) (hi : i < nm.length) (hE : ∀ (E : EVT) (U : State) (H : Heap), SF E U H → enF C d nm b E U H) (A : Mem) : CtI y_ord b_ord 1 0 0 (fun E => [cr E (b + i)]) A (fun v A9 => v = nI i ∧ A9 = A) := by
  refine ctI_of "java/lang/Enum" (by decide) rfl (fun E => [(0, cr E (b + i))]) (fun E => by simp [lg_sl, cr_cat, ca_i, ca_l, ca_d]) (fun E => by simp [lv_args, cr_cat, ca_i, ca_l, ca_d]) (fun X E hX hR hN hQ => ?_)
  refine g_aload_n (pc := 0) hX (show decode b_ord 0 = .ok (.aload_n 0, 1) by decide +kernel) rfl 0 rfl ?_
  refine g_getOrd (pc := 1) hX (by omega) ((hE E _ _ (gSF hX) i hi).2.2) (in_tbl 1661 (by decide +kernel)) (show decode b_ord 1 = .ok (.getfield 7, 3) by decide +kernel) ?_
  exact g_iret (pc := 4) hX hQ ⟨rfl, rfl⟩ (by decide +kernel)
theorem g_ordinal (hX : Gd X E own cc) (hR : Rm X F Q) {C d : String} {nm : List String} {b r index : Nat} (hb : b ≠ 0) (hr : b ≤ r ∧ r - b < nm.length) (hE : ∀ (E : EVT) (U : State) (H : Heap), SF E U H → enF C d nm b E U H) (hl : Cond.methodLink own index ⟨C, "ordinal", "()I"⟩ ∈ gtb) (hs : Cond.sameMethod C "java/lang/Enum" "ordinal" "()I" ∈ gtb) (hse : Cond.selects C ⟨C, "ordinal", "()I"⟩ y_ord ∈ gtb) (hF : 1 ≤ F ∧ 20 ≤ Q) (hw4 : (rest.map fun v => v.category).sum ≤ 8) (hd : decode cc pc = .ok (.invokevirtual index, 3)) (k : G X E A (pc + 3) lv (.int (nI (r - b)) :: rest)) : G X E A pc lv (cr E r :: rest) := by
  intro H locs ls h1 h2 h3
  have hin := hr.2
  have hsf := gSF hX
  obtain ⟨hx, hbc, hml, hown, hts, hEF, hlk⟩ := hX
  have hx0 : r ≠ 0 := by omega
  have hw9 := ((hE E _ _ hsf (r - b) hin).2.1).kept h2.2.1
  rw [show b + (r - b) = r by omega] at hw9
  obtain ⟨cell, q1, q2, q3, -⟩ := hw9
  rw [cr_pos hx0]
  have hpre : ∀ U : State, U.heap = H → (xs X).WarmedH U.vm → PcD E [cr E r] A (Value.ref (ead E r) :: []).toArray U := fun U hU hW => ⟨by rw [cr_pos hx0], EF_mv hEF h2 hU hW, by rw [hU]; exact h1⟩
  have hc := c_ord C d nm b (r - b) hb hin hE A (xl X) E
  rw [show b + (r - b) = r by omega] at hc
  have hroom : (Frm 0 0).frames + 1 ≤ (xR X).frames ∧ 8 + (1 + 11) + (Frm 0 0).locals ≤ (xR X).locals := ⟨Nat.le_trans hF.1 hR.1, Nat.le_trans hF.2 hR.2.1⟩
  have hw : 2 * 0 + (rest.map fun v => v.category).sum ≤ 8 := by omega
  refine va_calli (va_runU (C := C) (owner := "java/lang/Enum") (x := ⟨C, "ordinal", "()I"⟩) (As := []) (rest := rest) ⟨hx, hbc, hml, hown, hts⟩ hc (va_cwU 0 hts (lw_goodA (lw_goodc hl (lw_goodc hs (lw_goodc hse (lw_goodc (in_tbl 547 (by decide +kernel)) (lw_goodc (in_tbl 4 (by decide +kernel)) lw_good0))))) (lw_goodc (in_tbl 548 (by decide +kernel)) lw_good)) rfl rfl rfl rfl ⟨by decide, by decide, show (parseMethodDescriptor "()I").map (fun d => d.parameters.length) = some 0 by decide +kernel⟩ hroom) ⟨PcD_blind E _ A, ⟨cell, q1, q2, q3⟩, hpre⟩ rfl rfl h3.1 rfl hw hd ⟨hR.2.2.1, hR.2.2.2⟩) h2 (fun q _ h => h) (fun q h => h) (fun v u t H1 locs1 ht hvm hp hB hz1 hk1 hS => ?_)
  obtain ⟨rfl, rfl⟩ := hp
  exact k H1 locs1 ls (by rw [← ht]; exact hB) hS h3
end GM
