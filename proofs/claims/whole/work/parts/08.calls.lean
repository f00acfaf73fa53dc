/-! contracts over the typed memory; calls; returns -/
theorem lw_good : GoodIn gtb gtb := fun w h => ⟨h, good_of_word (List.mem_filter.mp h).2⟩
theorem lw_goodc {w : Cond} {ws : List Cond} (h : w ∈ gtb) (hs : GoodIn gtb ws) : GoodIn gtb (w :: ws) := fun v hv => (List.mem_cons.mp hv).elim (fun e => e ▸ lw_good w h) (hs v)
theorem lw_good0 : GoodIn gtb [] := fun _ h => absurd h List.not_mem_nil
theorem lw_goodA {a b : List Cond} (ha : GoodIn gtb a) (hb : GoodIn gtb b) : GoodIn gtb (a ++ b) := fun w h => (List.mem_append.mp h).elim (ha w) (hb w)
def Frm (fr lo : Nat) : Room := { frames := fr, cells := 0, slots := 0, locals := lo }
def PcD (E : EVT) (av : List Value) (A : Mem) : Array Value → State → Prop := va_Pc av (fun U => EF E U ∧ Rel E A U.heap)
abbrev RelT (E : EVT) : Mem → State → Prop := fun A t => Rel E A t.heap
def wsY (y : MethodName) (cc : ByteArray) (maxL : Nat) (ret : Option FieldType) : List Cond := Cond.code y cc maxL ret :: gtb
def Rm (X : CXT) (F Q : Nat) : Prop := F ≤ (xR X).frames ∧ Q ≤ (xR X).locals ∧ xcells X ≤ (xR X).cells ∧ xslots X ≤ (xR X).slots
theorem nest_tab {w : Cond} (hw : w ∈ nestW) : w.onTables = true := by
  have h := (List.mem_filter.mp hw).2
  cases w <;> first | rfl | (simp [isNest] at h)
theorem nest_warm {w : Cond} (hw : w ∈ nestW) {s U : State} (hW : s.WarmedH U.vm) (h0 : va_Nw w s) : va_Nw w U := by
  have h := (List.mem_filter.mp hw).2
  cases w <;> first | exact va_Nw.warmM hW h0 | exact va_Nw.warmF hW h0 | (simp [isNest] at h)
theorem EF_mv {E : EVT} {s U : State} {H : Heap} {locs : List Loc} (h : EF E s) (hS : va_S (eA E) s.heap H locs) (hU : U.heap = H) (hW : s.WarmedH U.vm) : EF E U :=
  ⟨h.1, va_K.moved hW.alike h.2.1, Nat.le_trans h.2.2.1 (by rw [hU]; exact hS.1), by rw [hU]; exact SF2_mv hW.alike (SF2_kp h.2.2.2.1 hS.2.1), fun w hw => nest_warm hw hW (h.2.2.2.2.1 w hw), fun q hq => vk_R.warm hW (h.2.2.2.2.2 q hq)⟩
theorem PcD_blind (E : EVT) (av : List Value) (A : Mem) : FrameBlind (PcD E av A) := fun a U g mk h => ⟨h.1, ⟨h.2.1.1, va_K.moved (u := U) (U := U.calling g mk a) (Vm.Alike.refl U.vm) h.2.1.2.1, h.2.1.2.2.1, SF2_mv (u := U) (U := U.calling g mk a) (Vm.Alike.refl U.vm) h.2.1.2.2.2.1, fun w hw => va_Nw.same (u := U) (U := U.calling g mk a) (nest_tab hw) rfl (h.2.1.2.2.2.2.1 w hw), fun q hq => vk_R.same (u := U) (U := U.calling g mk a) rfl (h.2.1.2.2.2.2.2 q hq)⟩, h.2.2⟩
theorem cat_sum (l : List Value) (h : 2 * l.length ≤ 8) : (l.map fun v => v.category).sum ≤ 8 := by
  have key : ∀ l : List Value, (l.map fun v => v.category).sum ≤ 2 * l.length := by
    intro l
    induction l with
    | nil => exact Nat.le_refl _
    | cons a t ih =>
      simp only [List.map_cons, List.sum_cons, List.length_cons]
      rcases lv_cat a with e | e <;> omega
  exact Nat.le_trans (key l) h

def CtI (y : MethodName) (cc : ByteArray) (maxL : Nat) (fr lo : Nat) (av : EVT → List Value) (A : Mem) (post : Int32 → Mem → Prop) : Prop := ∀ (l : Launch) (E : EVT), Met l y (wsY y cc maxL (some .int)) (Frm fr lo) (PcD E (av E) A) (va_Qi post (RelT E) (eA E)) 0 0 (eA E)
def CtZ (y : MethodName) (cc : ByteArray) (maxL : Nat) (fr lo : Nat) (av : EVT → List Value) (A : Mem) (post : Bool → Mem → Prop) : Prop := ∀ (l : Launch) (E : EVT), Met l y (wsY y cc maxL (some .boolean)) (Frm fr lo) (PcD E (av E) A) (va_Qi (fun r A9 => ∃ b : Bool, r = bI b ∧ post b A9) (RelT E) (eA E)) 0 0 (eA E)
def CtD (y : MethodName) (cc : ByteArray) (maxL : Nat) (fr lo : Nat) (av : EVT → List Value) (A : Mem) (post : UInt64 → Mem → Prop) : Prop := ∀ (l : Launch) (E : EVT), Met l y (wsY y cc maxL (some .double)) (Frm fr lo) (PcD E (av E) A) (va_Qd post (RelT E) (eA E)) 0 0 (eA E)
def CtJ (y : MethodName) (cc : ByteArray) (maxL : Nat) (fr lo : Nat) (av : EVT → List Value) (A : Mem) (post : Int64 → Mem → Prop) : Prop := ∀ (l : Launch) (E : EVT), Met l y (wsY y cc maxL (some .long)) (Frm fr lo) (PcD E (av E) A) (va_Ql post (RelT E) (eA E)) 0 0 (eA E)
def CtV (y : MethodName) (cc : ByteArray) (maxL : Nat) (fr lo : Nat) (av : EVT → List Value) (A : Mem) (post : Mem → Prop) : Prop := ∀ (l : Launch) (E : EVT), Met l y (wsY y cc maxL none) (Frm fr lo) (PcD E (av E) A) (va_Qv post (RelT E) (eA E)) 0 0 (eA E)
def CtN (y : MethodName) (cc : ByteArray) (maxL : Nat) (rt : FieldType) (fr lo : Nat) (av : EVT → List Value) (A : Mem) (post : Int32 → Mem → Prop) : Prop := ∀ (l : Launch) (E : EVT), Met l y (wsY y cc maxL (some rt)) (Frm fr lo) (PcD E (av E) A) (va_Qi post (RelT E) (eA E)) 0 0 (eA E)
def CtR (y : MethodName) (cc : ByteArray) (maxL : Nat) (rt : FieldType) (fr lo : Nat) (av : EVT → List Value) (A : Mem) (post : Nat → Mem → Prop) : Prop := ∀ (l : Launch) (E : EVT), Met l y (wsY y cc maxL (some rt)) (Frm fr lo) (PcD E (av E) A) (va_Qq (fun r A9 => ∃ k : Nat, r = ro E k ∧ post k A9) (RelT E) (eA E)) 0 0 (eA E)
section GC
variable {X : CXT} {E : EVT} {own : String} {cc : ByteArray} {A : Mem} {pc : Nat} {lv : List (Nat × Value)} {rest : List Value} {F Q : Nat}
theorem g_callV_I (hX : Gd X E own cc) (hR : Rm X F Q) {y : MethodName} {bytes : ByteArray} {maxL index n fr lo : Nat} {Ax : EVT → List Value} {post : Int32 → Mem → Prop} {As st : List Value} {x c : Nat} (hk : kd x = c) (hC : CFk c) (hy : y.cls = fC c) (hl : Cond.methodLink own index y ∈ gtb) (hM : MFi y bytes maxL (some .int) n)
    (hc : CtI y bytes maxL fr lo (fun E9 => cr E9 x :: Ax E9) A post) (hAs : Ax E = As) (hst : st = As.reverse ++ cr E x :: rest) (hn : As.length = n) (hro : fr + 1 ≤ F ∧ maxL + 19 + lo ≤ Q) (hw4 : (rest.map fun v => v.category).sum ≤ 8) (hd : decode cc pc = .ok (.invokevirtual index, 3))
    (k : ∀ (r : Int32) (A9 : Mem), post r A9 → G X E A9 (pc + 3) lv (.int r :: rest)) : G X E A pc lv st := by
  subst hst; subst hAs
  subst hk
  obtain ⟨hc0, hin, h50, hty, hnm⟩ := hC
  have hx0 : x ≠ 0 := by
    rintro rfl
    exact absurd h50.1 (by decide)
  intro H locs ls h1 h2 h3
  obtain ⟨hx, hb, hml, hown, hts, hEF, hlk⟩ := hX
  have hat := g_at h1 (show kd x ≠ 0 by omega)
  have e3 : ent E A x = .inr (kd x - 1, (List.range (nf (kd x))).map (fun i => fv E A x i (fts (kd x) i))) := by unfold ent; rw [if_pos h50.2]
  rw [e3] at hat
  obtain ⟨r9, hr9, cell, q1, q2, q3, q4⟩ := hat
  have hcl := hEF.2.1.1 _ _ hc0
  have hfc : (xs X).vm.findClass (fC (kd x)) = some ((eD E).1 (kd x - 1)) := hcl.2.1
  rw [cr_pos hx0]
  have hpre : ∀ U : State, U.heap = H → (xs X).WarmedH U.vm → PcD E (cr E x :: Ax E) A (Value.ref (ead E x) :: Ax E).toArray U := fun U hU hW => ⟨by rw [cr_pos hx0], EF_mv hEF h2 hU hW, by rw [hU]; exact h1⟩
  have hroom : (Frm fr lo).frames + 1 ≤ (xR X).frames ∧ 8 + (maxL + 11) + (Frm fr lo).locals ≤ (xR X).locals := ⟨Nat.le_trans hro.1 hR.1, by have := hR.2.1; show 8 + (maxL + 11) + lo ≤ _; omega⟩
  have hw : 2 * 0 + (rest.map fun v => v.category).sum ≤ 8 := by omega
  exact va_calli (va_runV (As := Ax E) (rest := rest) ⟨hx, hb, hml, hown, hts⟩ (hc (xl X) E) (cwV n hts (lw_goodA (lw_goodc hl (lw_goodc hM.2.1 (lw_goodc hM.2.2.1 (lw_goodc hM.2.2.2.1 lw_good0)))) (lw_goodc hM.1 lw_good)) rfl rfl rfl ⟨rfl, hM.2.2.2.2⟩ hroom) ⟨PcD_blind E _ A, ⟨cell, q1, by rw [q3]; rfl, by rw [q2, hy]; exact hfc⟩, hpre⟩ rfl hn h3.1 rfl hw hd ⟨hR.2.2.1, hR.2.2.2⟩) h2 (fun q _ h => h) (fun q h => h) (fun r u t H1 locs1 ht hvm hp hB hz1 hk1 hS => k r u hp H1 locs1 ls (by rw [← ht]; exact hB) hS h3)
theorem g_callV_Z (hX : Gd X E own cc) (hR : Rm X F Q) {y : MethodName} {bytes : ByteArray} {maxL index n fr lo : Nat} {Ax : EVT → List Value} {post : Bool → Mem → Prop} {As st : List Value} {x c : Nat} (hk : kd x = c) (hC : CFk c) (hy : y.cls = fC c) (hl : Cond.methodLink own index y ∈ gtb) (hM : MFi y bytes maxL (some .boolean) n)
    (hc : CtZ y bytes maxL fr lo (fun E9 => cr E9 x :: Ax E9) A post) (hAs : Ax E = As) (hst : st = As.reverse ++ cr E x :: rest) (hn : As.length = n) (hro : fr + 1 ≤ F ∧ maxL + 19 + lo ≤ Q) (hw4 : (rest.map fun v => v.category).sum ≤ 8) (hd : decode cc pc = .ok (.invokevirtual index, 3))
    (k : ∀ (r : Bool) (A9 : Mem), post r A9 → G X E A9 (pc + 3) lv (.int (bI r) :: rest)) : G X E A pc lv st := by
  subst hst; subst hAs
  subst hk
  obtain ⟨hc0, hin, h50, hty, hnm⟩ := hC
  have hx0 : x ≠ 0 := by
    rintro rfl
    exact absurd h50.1 (by decide)
  intro H locs ls h1 h2 h3
  obtain ⟨hx, hb, hml, hown, hts, hEF, hlk⟩ := hX
  have hat := g_at h1 (show kd x ≠ 0 by omega)
  have e3 : ent E A x = .inr (kd x - 1, (List.range (nf (kd x))).map (fun i => fv E A x i (fts (kd x) i))) := by unfold ent; rw [if_pos h50.2]
  rw [e3] at hat
  obtain ⟨r9, hr9, cell, q1, q2, q3, q4⟩ := hat
  have hcl := hEF.2.1.1 _ _ hc0
  have hfc : (xs X).vm.findClass (fC (kd x)) = some ((eD E).1 (kd x - 1)) := hcl.2.1
  rw [cr_pos hx0]
  have hpre : ∀ U : State, U.heap = H → (xs X).WarmedH U.vm → PcD E (cr E x :: Ax E) A (Value.ref (ead E x) :: Ax E).toArray U := fun U hU hW => ⟨by rw [cr_pos hx0], EF_mv hEF h2 hU hW, by rw [hU]; exact h1⟩
  have hroom : (Frm fr lo).frames + 1 ≤ (xR X).frames ∧ 8 + (maxL + 11) + (Frm fr lo).locals ≤ (xR X).locals := ⟨Nat.le_trans hro.1 hR.1, by have := hR.2.1; show 8 + (maxL + 11) + lo ≤ _; omega⟩
  have hw : 2 * 0 + (rest.map fun v => v.category).sum ≤ 8 := by omega
  exact va_calli (va_runV (As := Ax E) (rest := rest) ⟨hx, hb, hml, hown, hts⟩ (hc (xl X) E) (cwV n hts (lw_goodA (lw_goodc hl (lw_goodc hM.2.1 (lw_goodc hM.2.2.1 (lw_goodc hM.2.2.2.1 lw_good0)))) (lw_goodc hM.1 lw_good)) rfl rfl rfl ⟨rfl, hM.2.2.2.2⟩ hroom) ⟨PcD_blind E _ A, ⟨cell, q1, by rw [q3]; rfl, by rw [q2, hy]; exact hfc⟩, hpre⟩ rfl hn h3.1 rfl hw hd ⟨hR.2.2.1, hR.2.2.2⟩) h2 (fun q _ h => h) (fun q h => h) (fun r u t H1 locs1 ht hvm hp hB hz1 hk1 hS => by obtain ⟨b, rfl, hp⟩ := hp; exact k b u hp H1 locs1 ls (by rw [← ht]; exact hB) hS h3)
theorem g_callV_D (hX : Gd X E own cc) (hR : Rm X F Q) {y : MethodName} {bytes : ByteArray} {maxL index n fr lo : Nat} {Ax : EVT → List Value} {post : UInt64 → Mem → Prop} {As st : List Value} {x c : Nat} (hk : kd x = c) (hC : CFk c) (hy : y.cls = fC c) (hl : Cond.methodLink own index y ∈ gtb) (hM : MFi y bytes maxL (some .double) n)
    (hc : CtD y bytes maxL fr lo (fun E9 => cr E9 x :: Ax E9) A post) (hAs : Ax E = As) (hst : st = As.reverse ++ cr E x :: rest) (hn : As.length = n) (hro : fr + 1 ≤ F ∧ maxL + 19 + lo ≤ Q) (hw4 : (rest.map fun v => v.category).sum ≤ 8) (hd : decode cc pc = .ok (.invokevirtual index, 3))
    (k : ∀ (r : UInt64) (A9 : Mem), post r A9 → G X E A9 (pc + 3) lv (.double r :: rest)) : G X E A pc lv st := by
  subst hst; subst hAs
  subst hk
  obtain ⟨hc0, hin, h50, hty, hnm⟩ := hC
  have hx0 : x ≠ 0 := by
    rintro rfl
    exact absurd h50.1 (by decide)
  intro H locs ls h1 h2 h3
  obtain ⟨hx, hb, hml, hown, hts, hEF, hlk⟩ := hX
  have hat := g_at h1 (show kd x ≠ 0 by omega)
  have e3 : ent E A x = .inr (kd x - 1, (List.range (nf (kd x))).map (fun i => fv E A x i (fts (kd x) i))) := by unfold ent; rw [if_pos h50.2]
  rw [e3] at hat
  obtain ⟨r9, hr9, cell, q1, q2, q3, q4⟩ := hat
  have hcl := hEF.2.1.1 _ _ hc0
  have hfc : (xs X).vm.findClass (fC (kd x)) = some ((eD E).1 (kd x - 1)) := hcl.2.1
  rw [cr_pos hx0]
  have hpre : ∀ U : State, U.heap = H → (xs X).WarmedH U.vm → PcD E (cr E x :: Ax E) A (Value.ref (ead E x) :: Ax E).toArray U := fun U hU hW => ⟨by rw [cr_pos hx0], EF_mv hEF h2 hU hW, by rw [hU]; exact h1⟩
  have hroom : (Frm fr lo).frames + 1 ≤ (xR X).frames ∧ 8 + (maxL + 11) + (Frm fr lo).locals ≤ (xR X).locals := ⟨Nat.le_trans hro.1 hR.1, by have := hR.2.1; show 8 + (maxL + 11) + lo ≤ _; omega⟩
  have hw : 2 * 0 + (rest.map fun v => v.category).sum ≤ 8 := by omega
  exact va_calld (va_runV (As := Ax E) (rest := rest) ⟨hx, hb, hml, hown, hts⟩ (hc (xl X) E) (cwV n hts (lw_goodA (lw_goodc hl (lw_goodc hM.2.1 (lw_goodc hM.2.2.1 (lw_goodc hM.2.2.2.1 lw_good0)))) (lw_goodc hM.1 lw_good)) rfl rfl rfl ⟨rfl, hM.2.2.2.2⟩ hroom) ⟨PcD_blind E _ A, ⟨cell, q1, by rw [q3]; rfl, by rw [q2, hy]; exact hfc⟩, hpre⟩ rfl hn h3.1 rfl hw hd ⟨hR.2.2.1, hR.2.2.2⟩) h2 (fun q _ h => h) (fun q h => h) (fun r u t H1 locs1 ht hvm hp hB hz1 hk1 hS => k r u hp H1 locs1 ls (by rw [← ht]; exact hB) hS h3)
theorem g_callV_J (hX : Gd X E own cc) (hR : Rm X F Q) {y : MethodName} {bytes : ByteArray} {maxL index n fr lo : Nat} {Ax : EVT → List Value} {post : Int64 → Mem → Prop} {As st : List Value} {x c : Nat} (hk : kd x = c) (hC : CFk c) (hy : y.cls = fC c) (hl : Cond.methodLink own index y ∈ gtb) (hM : MFi y bytes maxL (some .long) n)
    (hc : CtJ y bytes maxL fr lo (fun E9 => cr E9 x :: Ax E9) A post) (hAs : Ax E = As) (hst : st = As.reverse ++ cr E x :: rest) (hn : As.length = n) (hro : fr + 1 ≤ F ∧ maxL + 19 + lo ≤ Q) (hw4 : (rest.map fun v => v.category).sum ≤ 8) (hd : decode cc pc = .ok (.invokevirtual index, 3))
    (k : ∀ (r : Int64) (A9 : Mem), post r A9 → G X E A9 (pc + 3) lv (.long r :: rest)) : G X E A pc lv st := by
  subst hst; subst hAs
  subst hk
  obtain ⟨hc0, hin, h50, hty, hnm⟩ := hC
  have hx0 : x ≠ 0 := by
    rintro rfl
    exact absurd h50.1 (by decide)
  intro H locs ls h1 h2 h3
  obtain ⟨hx, hb, hml, hown, hts, hEF, hlk⟩ := hX
  have hat := g_at h1 (show kd x ≠ 0 by omega)
  have e3 : ent E A x = .inr (kd x - 1, (List.range (nf (kd x))).map (fun i => fv E A x i (fts (kd x) i))) := by unfold ent; rw [if_pos h50.2]
  rw [e3] at hat
  obtain ⟨r9, hr9, cell, q1, q2, q3, q4⟩ := hat
  have hcl := hEF.2.1.1 _ _ hc0
  have hfc : (xs X).vm.findClass (fC (kd x)) = some ((eD E).1 (kd x - 1)) := hcl.2.1
  rw [cr_pos hx0]
  have hpre : ∀ U : State, U.heap = H → (xs X).WarmedH U.vm → PcD E (cr E x :: Ax E) A (Value.ref (ead E x) :: Ax E).toArray U := fun U hU hW => ⟨by rw [cr_pos hx0], EF_mv hEF h2 hU hW, by rw [hU]; exact h1⟩
  have hroom : (Frm fr lo).frames + 1 ≤ (xR X).frames ∧ 8 + (maxL + 11) + (Frm fr lo).locals ≤ (xR X).locals := ⟨Nat.le_trans hro.1 hR.1, by have := hR.2.1; show 8 + (maxL + 11) + lo ≤ _; omega⟩
  have hw : 2 * 0 + (rest.map fun v => v.category).sum ≤ 8 := by omega
  exact va_calll (va_runV (As := Ax E) (rest := rest) ⟨hx, hb, hml, hown, hts⟩ (hc (xl X) E) (cwV n hts (lw_goodA (lw_goodc hl (lw_goodc hM.2.1 (lw_goodc hM.2.2.1 (lw_goodc hM.2.2.2.1 lw_good0)))) (lw_goodc hM.1 lw_good)) rfl rfl rfl ⟨rfl, hM.2.2.2.2⟩ hroom) ⟨PcD_blind E _ A, ⟨cell, q1, by rw [q3]; rfl, by rw [q2, hy]; exact hfc⟩, hpre⟩ rfl hn h3.1 rfl hw hd ⟨hR.2.2.1, hR.2.2.2⟩) h2 (fun q _ h => h) (fun q h => h) (fun r u t H1 locs1 ht hvm hp hB hz1 hk1 hS => k r u hp H1 locs1 ls (by rw [← ht]; exact hB) hS h3)
theorem g_callV_V (hX : Gd X E own cc) (hR : Rm X F Q) {y : MethodName} {bytes : ByteArray} {maxL index n fr lo : Nat} {Ax : EVT → List Value} {post : Mem → Prop} {As st : List Value} {x c : Nat} (hk : kd x = c) (hC : CFk c) (hy : y.cls = fC c) (hl : Cond.methodLink own index y ∈ gtb) (hM : MFi y bytes maxL none n)
    (hc : CtV y bytes maxL fr lo (fun E9 => cr E9 x :: Ax E9) A post) (hAs : Ax E = As) (hst : st = As.reverse ++ cr E x :: rest) (hn : As.length = n) (hro : fr + 1 ≤ F ∧ maxL + 19 + lo ≤ Q) (hw4 : (rest.map fun v => v.category).sum ≤ 8) (hd : decode cc pc = .ok (.invokevirtual index, 3))
    (k : ∀ A9 : Mem, post A9 → G X E A9 (pc + 3) lv rest) : G X E A pc lv st := by
  subst hst; subst hAs
  subst hk
  obtain ⟨hc0, hin, h50, hty, hnm⟩ := hC
  have hx0 : x ≠ 0 := by
    rintro rfl
    exact absurd h50.1 (by decide)
  intro H locs ls h1 h2 h3
  obtain ⟨hx, hb, hml, hown, hts, hEF, hlk⟩ := hX
  have hat := g_at h1 (show kd x ≠ 0 by omega)
  have e3 : ent E A x = .inr (kd x - 1, (List.range (nf (kd x))).map (fun i => fv E A x i (fts (kd x) i))) := by unfold ent; rw [if_pos h50.2]
  rw [e3] at hat
  obtain ⟨r9, hr9, cell, q1, q2, q3, q4⟩ := hat
  have hcl := hEF.2.1.1 _ _ hc0
  have hfc : (xs X).vm.findClass (fC (kd x)) = some ((eD E).1 (kd x - 1)) := hcl.2.1
  rw [cr_pos hx0]
  have hpre : ∀ U : State, U.heap = H → (xs X).WarmedH U.vm → PcD E (cr E x :: Ax E) A (Value.ref (ead E x) :: Ax E).toArray U := fun U hU hW => ⟨by rw [cr_pos hx0], EF_mv hEF h2 hU hW, by rw [hU]; exact h1⟩
  have hroom : (Frm fr lo).frames + 1 ≤ (xR X).frames ∧ 8 + (maxL + 11) + (Frm fr lo).locals ≤ (xR X).locals := ⟨Nat.le_trans hro.1 hR.1, by have := hR.2.1; show 8 + (maxL + 11) + lo ≤ _; omega⟩
  have hw : 2 * 0 + (rest.map fun v => v.category).sum ≤ 8 := by omega
  exact va_callv (va_runV (As := Ax E) (rest := rest) ⟨hx, hb, hml, hown, hts⟩ (hc (xl X) E) (cwV n hts (lw_goodA (lw_goodc hl (lw_goodc hM.2.1 (lw_goodc hM.2.2.1 (lw_goodc hM.2.2.2.1 lw_good0)))) (lw_goodc hM.1 lw_good)) rfl rfl rfl ⟨rfl, hM.2.2.2.2⟩ hroom) ⟨PcD_blind E _ A, ⟨cell, q1, by rw [q3]; rfl, by rw [q2, hy]; exact hfc⟩, hpre⟩ rfl hn h3.1 rfl hw hd ⟨hR.2.2.1, hR.2.2.2⟩) h2 (fun q _ h => h) (fun q h => h) (fun u t H1 locs1 ht hvm hp hB hz1 hk1 hS => k u hp H1 locs1 ls (by rw [← ht]; exact hB) hS h3)
theorem g_callV_N (hX : Gd X E own cc) (hR : Rm X F Q) {y : MethodName} {bytes : ByteArray} {maxL index n fr lo : Nat} {Ax : EVT → List Value} {rt : FieldType} {post : Int32 → Mem → Prop} {As st : List Value} {x c : Nat} (hk : kd x = c) (hC : CFk c) (hy : y.cls = fC c) (hl : Cond.methodLink own index y ∈ gtb) (hM : MFi y bytes maxL (some rt) n)
    (hc : CtN y bytes maxL rt fr lo (fun E9 => cr E9 x :: Ax E9) A post) (hAs : Ax E = As) (hst : st = As.reverse ++ cr E x :: rest) (hn : As.length = n) (hro : fr + 1 ≤ F ∧ maxL + 19 + lo ≤ Q) (hw4 : (rest.map fun v => v.category).sum ≤ 8) (hd : decode cc pc = .ok (.invokevirtual index, 3))
    (k : ∀ (r : Int32) (A9 : Mem), post r A9 → G X E A9 (pc + 3) lv (.int r :: rest)) : G X E A pc lv st := by
  subst hst; subst hAs
  subst hk
  obtain ⟨hc0, hin, h50, hty, hnm⟩ := hC
  have hx0 : x ≠ 0 := by
    rintro rfl
    exact absurd h50.1 (by decide)
  intro H locs ls h1 h2 h3
  obtain ⟨hx, hb, hml, hown, hts, hEF, hlk⟩ := hX
  have hat := g_at h1 (show kd x ≠ 0 by omega)
  have e3 : ent E A x = .inr (kd x - 1, (List.range (nf (kd x))).map (fun i => fv E A x i (fts (kd x) i))) := by unfold ent; rw [if_pos h50.2]
  rw [e3] at hat
  obtain ⟨r9, hr9, cell, q1, q2, q3, q4⟩ := hat
  have hcl := hEF.2.1.1 _ _ hc0
  have hfc : (xs X).vm.findClass (fC (kd x)) = some ((eD E).1 (kd x - 1)) := hcl.2.1
  rw [cr_pos hx0]
  have hpre : ∀ U : State, U.heap = H → (xs X).WarmedH U.vm → PcD E (cr E x :: Ax E) A (Value.ref (ead E x) :: Ax E).toArray U := fun U hU hW => ⟨by rw [cr_pos hx0], EF_mv hEF h2 hU hW, by rw [hU]; exact h1⟩
  have hroom : (Frm fr lo).frames + 1 ≤ (xR X).frames ∧ 8 + (maxL + 11) + (Frm fr lo).locals ≤ (xR X).locals := ⟨Nat.le_trans hro.1 hR.1, by have := hR.2.1; show 8 + (maxL + 11) + lo ≤ _; omega⟩
  have hw : 2 * 0 + (rest.map fun v => v.category).sum ≤ 8 := by omega
  exact va_calli (va_runV (As := Ax E) (rest := rest) ⟨hx, hb, hml, hown, hts⟩ (hc (xl X) E) (cwV n hts (lw_goodA (lw_goodc hl (lw_goodc hM.2.1 (lw_goodc hM.2.2.1 (lw_goodc hM.2.2.2.1 lw_good0)))) (lw_goodc hM.1 lw_good)) rfl rfl rfl ⟨rfl, hM.2.2.2.2⟩ hroom) ⟨PcD_blind E _ A, ⟨cell, q1, by rw [q3]; rfl, by rw [q2, hy]; exact hfc⟩, hpre⟩ rfl hn h3.1 rfl hw hd ⟨hR.2.2.1, hR.2.2.2⟩) h2 (fun q _ h => h) (fun q h => h) (fun r u t H1 locs1 ht hvm hp hB hz1 hk1 hS => k r u hp H1 locs1 ls (by rw [← ht]; exact hB) hS h3)
theorem g_callV_R (hX : Gd X E own cc) (hR : Rm X F Q) {y : MethodName} {bytes : ByteArray} {maxL index n fr lo : Nat} {Ax : EVT → List Value} {rt : FieldType} {post : Nat → Mem → Prop} {As st : List Value} {x c : Nat} (hk : kd x = c) (hC : CFk c) (hy : y.cls = fC c) (hl : Cond.methodLink own index y ∈ gtb) (hM : MFi y bytes maxL (some rt) n)
    (hc : CtR y bytes maxL rt fr lo (fun E9 => cr E9 x :: Ax E9) A post) (hAs : Ax E = As) (hst : st = As.reverse ++ cr E x :: rest) (hn : As.length = n) (hro : fr + 1 ≤ F ∧ maxL + 19 + lo ≤ Q) (hw4 : (rest.map fun v => v.category).sum ≤ 8) (hd : decode cc pc = .ok (.invokevirtual index, 3))
    (k : ∀ (r : Nat) (A9 : Mem), post r A9 → G X E A9 (pc + 3) lv (cr E r :: rest)) : G X E A pc lv st := by
  subst hst; subst hAs
  subst hk
  obtain ⟨hc0, hin, h50, hty, hnm⟩ := hC
  have hx0 : x ≠ 0 := by
    rintro rfl
    exact absurd h50.1 (by decide)
  intro H locs ls h1 h2 h3
  obtain ⟨hx, hb, hml, hown, hts, hEF, hlk⟩ := hX
  have hat := g_at h1 (show kd x ≠ 0 by omega)
  have e3 : ent E A x = .inr (kd x - 1, (List.range (nf (kd x))).map (fun i => fv E A x i (fts (kd x) i))) := by unfold ent; rw [if_pos h50.2]
  rw [e3] at hat
  obtain ⟨r9, hr9, cell, q1, q2, q3, q4⟩ := hat
  have hcl := hEF.2.1.1 _ _ hc0
  have hfc : (xs X).vm.findClass (fC (kd x)) = some ((eD E).1 (kd x - 1)) := hcl.2.1
  rw [cr_pos hx0]
  have hpre : ∀ U : State, U.heap = H → (xs X).WarmedH U.vm → PcD E (cr E x :: Ax E) A (Value.ref (ead E x) :: Ax E).toArray U := fun U hU hW => ⟨by rw [cr_pos hx0], EF_mv hEF h2 hU hW, by rw [hU]; exact h1⟩
  have hroom : (Frm fr lo).frames + 1 ≤ (xR X).frames ∧ 8 + (maxL + 11) + (Frm fr lo).locals ≤ (xR X).locals := ⟨Nat.le_trans hro.1 hR.1, by have := hR.2.1; show 8 + (maxL + 11) + lo ≤ _; omega⟩
  have hw : 2 * 0 + (rest.map fun v => v.category).sum ≤ 8 := by omega
  exact va_callq (va_runV (As := Ax E) (rest := rest) ⟨hx, hb, hml, hown, hts⟩ (hc (xl X) E) (cwV n hts (lw_goodA (lw_goodc hl (lw_goodc hM.2.1 (lw_goodc hM.2.2.1 (lw_goodc hM.2.2.2.1 lw_good0)))) (lw_goodc hM.1 lw_good)) rfl rfl rfl ⟨rfl, hM.2.2.2.2⟩ hroom) ⟨PcD_blind E _ A, ⟨cell, q1, by rw [q3]; rfl, by rw [q2, hy]; exact hfc⟩, hpre⟩ rfl hn h3.1 rfl hw hd ⟨hR.2.2.1, hR.2.2.2⟩) h2 (fun q _ h => h) (fun q h => h) (fun r u t H1 locs1 ht hvm hp hB hz1 hk1 hS => by obtain ⟨b, rfl, hp⟩ := hp; exact k b u hp H1 locs1 ls (by rw [← ht]; exact hB) hS h3)
theorem g_callVN_I (hX : Gd X E own cc) (hR : Rm X F Q) {y : MethodName} {bytes : ByteArray} {maxL index n fr lo : Nat} {Ax : EVT → List Value} {post : Int32 → Mem → Prop} {As st : List Value} {x c : Nat} {host : String} (hk : kd x = c) (hC : CFk c) (hy : y.cls = fC c) (hl : Cond.methodLinkNest own index y host ∈ nestW) (hM : MFi y bytes maxL (some .int) n)
    (hc : CtI y bytes maxL fr lo (fun E9 => cr E9 x :: Ax E9) A post) (hAs : Ax E = As) (hst : st = As.reverse ++ cr E x :: rest) (hn : As.length = n) (hro : fr + 1 ≤ F ∧ maxL + 19 + lo ≤ Q) (hw4 : (rest.map fun v => v.category).sum ≤ 8) (hd : decode cc pc = .ok (.invokevirtual index, 3))
    (k : ∀ (r : Int32) (A9 : Mem), post r A9 → G X E A9 (pc + 3) lv (.int r :: rest)) : G X E A pc lv st := by
  subst hst; subst hAs
  subst hk
  obtain ⟨hc0, hin, h50, hty, hnm⟩ := hC
  have hx0 : x ≠ 0 := by
    rintro rfl
    exact absurd h50.1 (by decide)
  intro H locs ls h1 h2 h3
  obtain ⟨hx, hb, hml, hown, hts, hEF, hlk⟩ := hX
  have hat := g_at h1 (show kd x ≠ 0 by omega)
  have e3 : ent E A x = .inr (kd x - 1, (List.range (nf (kd x))).map (fun i => fv E A x i (fts (kd x) i))) := by unfold ent; rw [if_pos h50.2]
  rw [e3] at hat
  obtain ⟨r9, hr9, cell, q1, q2, q3, q4⟩ := hat
  have hcl := hEF.2.1.1 _ _ hc0
  have hfc : (xs X).vm.findClass (fC (kd x)) = some ((eD E).1 (kd x - 1)) := hcl.2.1
  rw [cr_pos hx0]
  have hpre : ∀ U : State, U.heap = H → (xs X).WarmedH U.vm → PcD E (cr E x :: Ax E) A (Value.ref (ead E x) :: Ax E).toArray U := fun U hU hW => ⟨by rw [cr_pos hx0], EF_mv hEF h2 hU hW, by rw [hU]; exact h1⟩
  have hroom : (Frm fr lo).frames + 1 ≤ (xR X).frames ∧ 8 + (maxL + 11) + (Frm fr lo).locals ≤ (xR X).locals := ⟨Nat.le_trans hro.1 hR.1, by have := hR.2.1; show 8 + (maxL + 11) + lo ≤ _; omega⟩
  have hw : 2 * 0 + (rest.map fun v => v.category).sum ≤ 8 := by omega
  exact va_calli (va_runVN (C := y.cls) (As := Ax E) (rest := rest) ⟨hx, hb, hml, hown, hts⟩ (hc (xl X) E) ⟨va_cnB n hts (lw_goodc hM.1 lw_good) rfl rfl rfl (hEF.2.2.2.2.1 _ hl) (hts _ hM.2.2.2.1) hM.2.2.2.2 hroom, hts _ hM.2.1, hts _ hM.2.2.1⟩ ⟨PcD_blind E _ A, ⟨cell, q1, by rw [q3]; rfl, by rw [q2, hy]; exact hfc⟩, hpre⟩ rfl hn h3.1 rfl hw hd ⟨hR.2.2.1, hR.2.2.2⟩) h2 (fun q _ h => h) (fun q h => h) (fun r u t H1 locs1 ht hvm hp hB hz1 hk1 hS => k r u hp H1 locs1 ls (by rw [← ht]; exact hB) hS h3)
theorem g_callVN_Z (hX : Gd X E own cc) (hR : Rm X F Q) {y : MethodName} {bytes : ByteArray} {maxL index n fr lo : Nat} {Ax : EVT → List Value} {post : Bool → Mem → Prop} {As st : List Value} {x c : Nat} {host : String} (hk : kd x = c) (hC : CFk c) (hy : y.cls = fC c) (hl : Cond.methodLinkNest own index y host ∈ nestW) (hM : MFi y bytes maxL (some .boolean) n)
    (hc : CtZ y bytes maxL fr lo (fun E9 => cr E9 x :: Ax E9) A post) (hAs : Ax E = As) (hst : st = As.reverse ++ cr E x :: rest) (hn : As.length = n) (hro : fr + 1 ≤ F ∧ maxL + 19 + lo ≤ Q) (hw4 : (rest.map fun v => v.category).sum ≤ 8) (hd : decode cc pc = .ok (.invokevirtual index, 3))
    (k : ∀ (r : Bool) (A9 : Mem), post r A9 → G X E A9 (pc + 3) lv (.int (bI r) :: rest)) : G X E A pc lv st := by
  subst hst; subst hAs
  subst hk
  obtain ⟨hc0, hin, h50, hty, hnm⟩ := hC
  have hx0 : x ≠ 0 := by
    rintro rfl
    exact absurd h50.1 (by decide)
  intro H locs ls h1 h2 h3
  obtain ⟨hx, hb, hml, hown, hts, hEF, hlk⟩ := hX
  have hat := g_at h1 (show kd x ≠ 0 by omega)
  have e3 : ent E A x = .inr (kd x - 1, (List.range (nf (kd x))).map (fun i => fv E A x i (fts (kd x) i))) := by unfold ent; rw [if_pos h50.2]
  rw [e3] at hat
  obtain ⟨r9, hr9, cell, q1, q2, q3, q4⟩ := hat
  have hcl := hEF.2.1.1 _ _ hc0
  have hfc : (xs X).vm.findClass (fC (kd x)) = some ((eD E).1 (kd x - 1)) := hcl.2.1
  rw [cr_pos hx0]
  have hpre : ∀ U : State, U.heap = H → (xs X).WarmedH U.vm → PcD E (cr E x :: Ax E) A (Value.ref (ead E x) :: Ax E).toArray U := fun U hU hW => ⟨by rw [cr_pos hx0], EF_mv hEF h2 hU hW, by rw [hU]; exact h1⟩
  have hroom : (Frm fr lo).frames + 1 ≤ (xR X).frames ∧ 8 + (maxL + 11) + (Frm fr lo).locals ≤ (xR X).locals := ⟨Nat.le_trans hro.1 hR.1, by have := hR.2.1; show 8 + (maxL + 11) + lo ≤ _; omega⟩
  have hw : 2 * 0 + (rest.map fun v => v.category).sum ≤ 8 := by omega
  exact va_calli (va_runVN (C := y.cls) (As := Ax E) (rest := rest) ⟨hx, hb, hml, hown, hts⟩ (hc (xl X) E) ⟨va_cnB n hts (lw_goodc hM.1 lw_good) rfl rfl rfl (hEF.2.2.2.2.1 _ hl) (hts _ hM.2.2.2.1) hM.2.2.2.2 hroom, hts _ hM.2.1, hts _ hM.2.2.1⟩ ⟨PcD_blind E _ A, ⟨cell, q1, by rw [q3]; rfl, by rw [q2, hy]; exact hfc⟩, hpre⟩ rfl hn h3.1 rfl hw hd ⟨hR.2.2.1, hR.2.2.2⟩) h2 (fun q _ h => h) (fun q h => h) (fun r u t H1 locs1 ht hvm hp hB hz1 hk1 hS => by obtain ⟨b, rfl, hp⟩ := hp; exact k b u hp H1 locs1 ls (by rw [← ht]; exact hB) hS h3)
theorem g_callVN_D (hX : Gd X E own cc) (hR : Rm X F Q) {y : MethodName} {bytes : ByteArray} {maxL index n fr lo : Nat} {Ax : EVT → List Value} {post : UInt64 → Mem → Prop} {As st : List Value} {x c : Nat} {host : String} (hk : kd x = c) (hC : CFk c) (hy : y.cls = fC c) (hl : Cond.methodLinkNest own index y host ∈ nestW) (hM : MFi y bytes maxL (some .double) n)
    (hc : CtD y bytes maxL fr lo (fun E9 => cr E9 x :: Ax E9) A post) (hAs : Ax E = As) (hst : st = As.reverse ++ cr E x :: rest) (hn : As.length = n) (hro : fr + 1 ≤ F ∧ maxL + 19 + lo ≤ Q) (hw4 : (rest.map fun v => v.category).sum ≤ 8) (hd : decode cc pc = .ok (.invokevirtual index, 3))
    (k : ∀ (r : UInt64) (A9 : Mem), post r A9 → G X E A9 (pc + 3) lv (.double r :: rest)) : G X E A pc lv st := by
  subst hst; subst hAs
  subst hk
  obtain ⟨hc0, hin, h50, hty, hnm⟩ := hC
  have hx0 : x ≠ 0 := by
    rintro rfl
    exact absurd h50.1 (by decide)
  intro H locs ls h1 h2 h3
  obtain ⟨hx, hb, hml, hown, hts, hEF, hlk⟩ := hX
  have hat := g_at h1 (show kd x ≠ 0 by omega)
  have e3 : ent E A x = .inr (kd x - 1, (List.range (nf (kd x))).map (fun i => fv E A x i (fts (kd x) i))) := by unfold ent; rw [if_pos h50.2]
  rw [e3] at hat
  obtain ⟨r9, hr9, cell, q1, q2, q3, q4⟩ := hat
  have hcl := hEF.2.1.1 _ _ hc0
  have hfc : (xs X).vm.findClass (fC (kd x)) = some ((eD E).1 (kd x - 1)) := hcl.2.1
  rw [cr_pos hx0]
  have hpre : ∀ U : State, U.heap = H → (xs X).WarmedH U.vm → PcD E (cr E x :: Ax E) A (Value.ref (ead E x) :: Ax E).toArray U := fun U hU hW => ⟨by rw [cr_pos hx0], EF_mv hEF h2 hU hW, by rw [hU]; exact h1⟩
  have hroom : (Frm fr lo).frames + 1 ≤ (xR X).frames ∧ 8 + (maxL + 11) + (Frm fr lo).locals ≤ (xR X).locals := ⟨Nat.le_trans hro.1 hR.1, by have := hR.2.1; show 8 + (maxL + 11) + lo ≤ _; omega⟩
  have hw : 2 * 0 + (rest.map fun v => v.category).sum ≤ 8 := by omega
  exact va_calld (va_runVN (C := y.cls) (As := Ax E) (rest := rest) ⟨hx, hb, hml, hown, hts⟩ (hc (xl X) E) ⟨va_cnB n hts (lw_goodc hM.1 lw_good) rfl rfl rfl (hEF.2.2.2.2.1 _ hl) (hts _ hM.2.2.2.1) hM.2.2.2.2 hroom, hts _ hM.2.1, hts _ hM.2.2.1⟩ ⟨PcD_blind E _ A, ⟨cell, q1, by rw [q3]; rfl, by rw [q2, hy]; exact hfc⟩, hpre⟩ rfl hn h3.1 rfl hw hd ⟨hR.2.2.1, hR.2.2.2⟩) h2 (fun q _ h => h) (fun q h => h) (fun r u t H1 locs1 ht hvm hp hB hz1 hk1 hS => k r u hp H1 locs1 ls (by rw [← ht]; exact hB) hS h3)
theorem g_callVN_J (hX : Gd X E own cc) (hR : Rm X F Q) {y : MethodName} {bytes : ByteArray} {maxL index n fr lo : Nat} {Ax : EVT → List Value} {post : Int64 → Mem → Prop} {As st : List Value} {x c : Nat} {host : String} (hk : kd x = c) (hC : CFk c) (hy : y.cls = fC c) (hl : Cond.methodLinkNest own index y host ∈ nestW) (hM : MFi y bytes maxL (some .long) n)
    (hc : CtJ y bytes maxL fr lo (fun E9 => cr E9 x :: Ax E9) A post) (hAs : Ax E = As) (hst : st = As.reverse ++ cr E x :: rest) (hn : As.length = n) (hro : fr + 1 ≤ F ∧ maxL + 19 + lo ≤ Q) (hw4 : (rest.map fun v => v.category).sum ≤ 8) (hd : decode cc pc = .ok (.invokevirtual index, 3))
    (k : ∀ (r : Int64) (A9 : Mem), post r A9 → G X E A9 (pc + 3) lv (.long r :: rest)) : G X E A pc lv st := by
  subst hst; subst hAs
  subst hk
  obtain ⟨hc0, hin, h50, hty, hnm⟩ := hC
  have hx0 : x ≠ 0 := by
    rintro rfl
    exact absurd h50.1 (by decide)
  intro H locs ls h1 h2 h3
  obtain ⟨hx, hb, hml, hown, hts, hEF, hlk⟩ := hX
  have hat := g_at h1 (show kd x ≠ 0 by omega)
  have e3 : ent E A x = .inr (kd x - 1, (List.range (nf (kd x))).map (fun i => fv E A x i (fts (kd x) i))) := by unfold ent; rw [if_pos h50.2]
  rw [e3] at hat
  obtain ⟨r9, hr9, cell, q1, q2, q3, q4⟩ := hat
  have hcl := hEF.2.1.1 _ _ hc0
  have hfc : (xs X).vm.findClass (fC (kd x)) = some ((eD E).1 (kd x - 1)) := hcl.2.1
  rw [cr_pos hx0]
  have hpre : ∀ U : State, U.heap = H → (xs X).WarmedH U.vm → PcD E (cr E x :: Ax E) A (Value.ref (ead E x) :: Ax E).toArray U := fun U hU hW => ⟨by rw [cr_pos hx0], EF_mv hEF h2 hU hW, by rw [hU]; exact h1⟩
  have hroom : (Frm fr lo).frames + 1 ≤ (xR X).frames ∧ 8 + (maxL + 11) + (Frm fr lo).locals ≤ (xR X).locals := ⟨Nat.le_trans hro.1 hR.1, by have := hR.2.1; show 8 + (maxL + 11) + lo ≤ _; omega⟩
  have hw : 2 * 0 + (rest.map fun v => v.category).sum ≤ 8 := by omega
  exact va_calll (va_runVN (C := y.cls) (As := Ax E) (rest := rest) ⟨hx, hb, hml, hown, hts⟩ (hc (xl X) E) ⟨va_cnB n hts (lw_goodc hM.1 lw_good) rfl rfl rfl (hEF.2.2.2.2.1 _ hl) (hts _ hM.2.2.2.1) hM.2.2.2.2 hroom, hts _ hM.2.1, hts _ hM.2.2.1⟩ ⟨PcD_blind E _ A, ⟨cell, q1, by rw [q3]; rfl, by rw [q2, hy]; exact hfc⟩, hpre⟩ rfl hn h3.1 rfl hw hd ⟨hR.2.2.1, hR.2.2.2⟩) h2 (fun q _ h => h) (fun q h => h) (fun r u t H1 locs1 ht hvm hp hB hz1 hk1 hS => k r u hp H1 locs1 ls (by rw [← ht]; exact hB) hS h3)
theorem g_callVN_V (hX : Gd X E own cc) (hR : Rm X F Q) {y : MethodName} {bytes : ByteArray} {maxL index n fr lo : Nat} {Ax : EVT → List Value} {post : Mem → Prop} {As st : List Value} {x c : Nat} {host : String} (hk : kd x = c) (hC : CFk c) (hy : y.cls = fC c) (hl : Cond.methodLinkNest own index y host ∈ nestW) (hM : MFi y bytes maxL none n)
    (hc : CtV y bytes maxL fr lo (fun E9 => cr E9 x :: Ax E9) A post) (hAs : Ax E = As) (hst : st = As.reverse ++ cr E x :: rest) (hn : As.length = n) (hro : fr + 1 ≤ F ∧ maxL + 19 + lo ≤ Q) (hw4 : (rest.map fun v => v.category).sum ≤ 8) (hd : decode cc pc = .ok (.invokevirtual index, 3))
    (k : ∀ A9 : Mem, post A9 → G X E A9 (pc + 3) lv rest) : G X E A pc lv st := by
  subst hst; subst hAs
  subst hk
  obtain ⟨hc0, hin, h50, hty, hnm⟩ := hC
  have hx0 : x ≠ 0 := by
    rintro rfl
    exact absurd h50.1 (by decide)
  intro H locs ls h1 h2 h3
  obtain ⟨hx, hb, hml, hown, hts, hEF, hlk⟩ := hX
  have hat := g_at h1 (show kd x ≠ 0 by omega)
  have e3 : ent E A x = .inr (kd x - 1, (List.range (nf (kd x))).map (fun i => fv E A x i (fts (kd x) i))) := by unfold ent; rw [if_pos h50.2]
  rw [e3] at hat
  obtain ⟨r9, hr9, cell, q1, q2, q3, q4⟩ := hat
  have hcl := hEF.2.1.1 _ _ hc0
  have hfc : (xs X).vm.findClass (fC (kd x)) = some ((eD E).1 (kd x - 1)) := hcl.2.1
  rw [cr_pos hx0]
  have hpre : ∀ U : State, U.heap = H → (xs X).WarmedH U.vm → PcD E (cr E x :: Ax E) A (Value.ref (ead E x) :: Ax E).toArray U := fun U hU hW => ⟨by rw [cr_pos hx0], EF_mv hEF h2 hU hW, by rw [hU]; exact h1⟩
  have hroom : (Frm fr lo).frames + 1 ≤ (xR X).frames ∧ 8 + (maxL + 11) + (Frm fr lo).locals ≤ (xR X).locals := ⟨Nat.le_trans hro.1 hR.1, by have := hR.2.1; show 8 + (maxL + 11) + lo ≤ _; omega⟩
  have hw : 2 * 0 + (rest.map fun v => v.category).sum ≤ 8 := by omega
  exact va_callv (va_runVN (C := y.cls) (As := Ax E) (rest := rest) ⟨hx, hb, hml, hown, hts⟩ (hc (xl X) E) ⟨va_cnB n hts (lw_goodc hM.1 lw_good) rfl rfl rfl (hEF.2.2.2.2.1 _ hl) (hts _ hM.2.2.2.1) hM.2.2.2.2 hroom, hts _ hM.2.1, hts _ hM.2.2.1⟩ ⟨PcD_blind E _ A, ⟨cell, q1, by rw [q3]; rfl, by rw [q2, hy]; exact hfc⟩, hpre⟩ rfl hn h3.1 rfl hw hd ⟨hR.2.2.1, hR.2.2.2⟩) h2 (fun q _ h => h) (fun q h => h) (fun u t H1 locs1 ht hvm hp hB hz1 hk1 hS => k u hp H1 locs1 ls (by rw [← ht]; exact hB) hS h3)
theorem g_callVN_N (hX : Gd X E own cc) (hR : Rm X F Q) {y : MethodName} {bytes : ByteArray} {maxL index n fr lo : Nat} {Ax : EVT → List Value} {rt : FieldType} {post : Int32 → Mem → Prop} {As st : List Value} {x c : Nat} {host : String} (hk : kd x = c) (hC : CFk c) (hy : y.cls = fC c) (hl : Cond.methodLinkNest own index y host ∈ nestW) (hM : MFi y bytes maxL (some rt) n)
    (hc : CtN y bytes maxL rt fr lo (fun E9 => cr E9 x :: Ax E9) A post) (hAs : Ax E = As) (hst : st = As.reverse ++ cr E x :: rest) (hn : As.length = n) (hro : fr + 1 ≤ F ∧ maxL + 19 + lo ≤ Q) (hw4 : (rest.map fun v => v.category).sum ≤ 8) (hd : decode cc pc = .ok (.invokevirtual index, 3))
    (k : ∀ (r : Int32) (A9 : Mem), post r A9 → G X E A9 (pc + 3) lv (.int r :: rest)) : G X E A pc lv st := by
  subst hst; subst hAs
  subst hk
  obtain ⟨hc0, hin, h50, hty, hnm⟩ := hC
  have hx0 : x ≠ 0 := by
    rintro rfl
    exact absurd h50.1 (by decide)
  intro H locs ls h1 h2 h3
  obtain ⟨hx, hb, hml, hown, hts, hEF, hlk⟩ := hX
  have hat := g_at h1 (show kd x ≠ 0 by omega)
  have e3 : ent E A x = .inr (kd x - 1, (List.range (nf (kd x))).map (fun i => fv E A x i (fts (kd x) i))) := by unfold ent; rw [if_pos h50.2]
  rw [e3] at hat
  obtain ⟨r9, hr9, cell, q1, q2, q3, q4⟩ := hat
  have hcl := hEF.2.1.1 _ _ hc0
  have hfc : (xs X).vm.findClass (fC (kd x)) = some ((eD E).1 (kd x - 1)) := hcl.2.1
  rw [cr_pos hx0]
  have hpre : ∀ U : State, U.heap = H → (xs X).WarmedH U.vm → PcD E (cr E x :: Ax E) A (Value.ref (ead E x) :: Ax E).toArray U := fun U hU hW => ⟨by rw [cr_pos hx0], EF_mv hEF h2 hU hW, by rw [hU]; exact h1⟩
  have hroom : (Frm fr lo).frames + 1 ≤ (xR X).frames ∧ 8 + (maxL + 11) + (Frm fr lo).locals ≤ (xR X).locals := ⟨Nat.le_trans hro.1 hR.1, by have := hR.2.1; show 8 + (maxL + 11) + lo ≤ _; omega⟩
  have hw : 2 * 0 + (rest.map fun v => v.category).sum ≤ 8 := by omega
  exact va_calli (va_runVN (C := y.cls) (As := Ax E) (rest := rest) ⟨hx, hb, hml, hown, hts⟩ (hc (xl X) E) ⟨va_cnB n hts (lw_goodc hM.1 lw_good) rfl rfl rfl (hEF.2.2.2.2.1 _ hl) (hts _ hM.2.2.2.1) hM.2.2.2.2 hroom, hts _ hM.2.1, hts _ hM.2.2.1⟩ ⟨PcD_blind E _ A, ⟨cell, q1, by rw [q3]; rfl, by rw [q2, hy]; exact hfc⟩, hpre⟩ rfl hn h3.1 rfl hw hd ⟨hR.2.2.1, hR.2.2.2⟩) h2 (fun q _ h => h) (fun q h => h) (fun r u t H1 locs1 ht hvm hp hB hz1 hk1 hS => k r u hp H1 locs1 ls (by rw [← ht]; exact hB) hS h3)
theorem g_callVN_R (hX : Gd X E own cc) (hR : Rm X F Q) {y : MethodName} {bytes : ByteArray} {maxL index n fr lo : Nat} {Ax : EVT → List Value} {rt : FieldType} {post : Nat → Mem → Prop} {As st : List Value} {x c : Nat} {host : String} (hk : kd x = c) (hC : CFk c) (hy : y.cls = fC c) (hl : Cond.methodLinkNest own index y host ∈ nestW) (hM : MFi y bytes maxL (some rt) n)
    (hc : CtR y bytes maxL rt fr lo (fun E9 => cr E9 x :: Ax E9) A post) (hAs : Ax E = As) (hst : st = As.reverse ++ cr E x :: rest) (hn : As.length = n) (hro : fr + 1 ≤ F ∧ maxL + 19 + lo ≤ Q) (hw4 : (rest.map fun v => v.category).sum ≤ 8) (hd : decode cc pc = .ok (.invokevirtual index, 3))
    (k : ∀ (r : Nat) (A9 : Mem), post r A9 → G X E A9 (pc + 3) lv (cr E r :: rest)) : G X E A pc lv st := by
  subst hst; subst hAs
  subst hk
  obtain ⟨hc0, hin, h50, hty, hnm⟩ := hC
  have hx0 : x ≠ 0 := by
    rintro rfl
    exact absurd h50.1 (by decide)
  intro H locs ls h1 h2 h3
  obtain ⟨hx, hb, hml, hown, hts, hEF, hlk⟩ := hX
  have hat := g_at h1 (show kd x ≠ 0 by omega)
  have e3 : ent E A x = .inr (kd x - 1, (List.range (nf (kd x))).map (fun i => fv E A x i (fts (kd x) i))) := by unfold ent; rw [if_pos h50.2]
  rw [e3] at hat
  obtain ⟨r9, hr9, cell, q1, q2, q3, q4⟩ := hat
  have hcl := hEF.2.1.1 _ _ hc0
  have hfc : (xs X).vm.findClass (fC (kd x)) = some ((eD E).1 (kd x - 1)) := hcl.2.1
  rw [cr_pos hx0]
  have hpre : ∀ U : State, U.heap = H → (xs X).WarmedH U.vm → PcD E (cr E x :: Ax E) A (Value.ref (ead E x) :: Ax E).toArray U := fun U hU hW => ⟨by rw [cr_pos hx0], EF_mv hEF h2 hU hW, by rw [hU]; exact h1⟩
  have hroom : (Frm fr lo).frames + 1 ≤ (xR X).frames ∧ 8 + (maxL + 11) + (Frm fr lo).locals ≤ (xR X).locals := ⟨Nat.le_trans hro.1 hR.1, by have := hR.2.1; show 8 + (maxL + 11) + lo ≤ _; omega⟩
  have hw : 2 * 0 + (rest.map fun v => v.category).sum ≤ 8 := by omega
  exact va_callq (va_runVN (C := y.cls) (As := Ax E) (rest := rest) ⟨hx, hb, hml, hown, hts⟩ (hc (xl X) E) ⟨va_cnB n hts (lw_goodc hM.1 lw_good) rfl rfl rfl (hEF.2.2.2.2.1 _ hl) (hts _ hM.2.2.2.1) hM.2.2.2.2 hroom, hts _ hM.2.1, hts _ hM.2.2.1⟩ ⟨PcD_blind E _ A, ⟨cell, q1, by rw [q3]; rfl, by rw [q2, hy]; exact hfc⟩, hpre⟩ rfl hn h3.1 rfl hw hd ⟨hR.2.2.1, hR.2.2.2⟩) h2 (fun q _ h => h) (fun q h => h) (fun r u t H1 locs1 ht hvm hp hB hz1 hk1 hS => by obtain ⟨b, rfl, hp⟩ := hp; exact k b u hp H1 locs1 ls (by rw [← ht]; exact hB) hS h3)
theorem g_callS_I (hX : Gd X E own cc) (hR : Rm X F Q) {y : MethodName} {bytes : ByteArray} {maxL index n fr lo : Nat} {Ax : EVT → List Value} {post : Int32 → Mem → Prop} {As st : List Value} (hl : Cond.methodLink own index y ∈ gtb) (hM : MFs y bytes maxL (some .int) n)
    (hc : CtI y bytes maxL fr lo (fun E9 => Ax E9) A post) (hAs : Ax E = As) (hst : st = As.reverse ++ rest) (hn : As.length = n) (hro : fr + 1 ≤ F ∧ maxL + 19 + lo ≤ Q) (hw4 : (rest.map fun v => v.category).sum ≤ 8) (hd : decode cc pc = .ok (.invokestatic index, 3))
    (k : ∀ (r : Int32) (A9 : Mem), post r A9 → G X E A9 (pc + 3) lv (.int r :: rest)) : G X E A pc lv st := by
  subst hst; subst hAs
  intro H locs ls h1 h2 h3
  obtain ⟨hx, hb, hml, hown, hts, hEF, hlk⟩ := hX
  have hpre : ∀ U : State, U.heap = H → (xs X).WarmedH U.vm → PcD E (Ax E) A (Ax E).toArray U := fun U hU hW => ⟨rfl, EF_mv hEF h2 hU hW, by rw [hU]; exact h1⟩
  have hroom : (Frm fr lo).frames + 1 ≤ (xR X).frames ∧ 8 + (maxL + 11) + (Frm fr lo).locals ≤ (xR X).locals := ⟨Nat.le_trans hro.1 hR.1, by have := hR.2.1; show 8 + (maxL + 11) + lo ≤ _; omega⟩
  have hw : 2 * 0 + (rest.map fun v => v.category).sum ≤ 8 := by omega
  exact va_calli (va_runS (As := Ax E) (rest := rest) ⟨hx, hb, hml, hown, hts⟩ (hc (xl X) E) (va_cwS n hts (lw_goodA (lw_goodc hl (lw_goodc hM.2.1 (lw_goodc hM.2.2.1 lw_good0))) (lw_goodc hM.1 lw_good)) rfl rfl rfl hM.2.2.2 hroom) ⟨PcD_blind E _ A, hpre⟩ rfl hn h3.1 rfl hw hd ⟨hR.2.2.1, hR.2.2.2⟩) h2 (fun q _ h => h) (fun q h => h) (fun r u t H1 locs1 ht hvm hp hB hz1 hk1 hS => k r u hp H1 locs1 ls (by rw [← ht]; exact hB) hS h3)
theorem g_callS_Z (hX : Gd X E own cc) (hR : Rm X F Q) {y : MethodName} {bytes : ByteArray} {maxL index n fr lo : Nat} {Ax : EVT → List Value} {post : Bool → Mem → Prop} {As st : List Value} (hl : Cond.methodLink own index y ∈ gtb) (hM : MFs y bytes maxL (some .boolean) n)
    (hc : CtZ y bytes maxL fr lo (fun E9 => Ax E9) A post) (hAs : Ax E = As) (hst : st = As.reverse ++ rest) (hn : As.length = n) (hro : fr + 1 ≤ F ∧ maxL + 19 + lo ≤ Q) (hw4 : (rest.map fun v => v.category).sum ≤ 8) (hd : decode cc pc = .ok (.invokestatic index, 3))
    (k : ∀ (r : Bool) (A9 : Mem), post r A9 → G X E A9 (pc + 3) lv (.int (bI r) :: rest)) : G X E A pc lv st := by
  subst hst; subst hAs
  intro H locs ls h1 h2 h3
  obtain ⟨hx, hb, hml, hown, hts, hEF, hlk⟩ := hX
  have hpre : ∀ U : State, U.heap = H → (xs X).WarmedH U.vm → PcD E (Ax E) A (Ax E).toArray U := fun U hU hW => ⟨rfl, EF_mv hEF h2 hU hW, by rw [hU]; exact h1⟩
  have hroom : (Frm fr lo).frames + 1 ≤ (xR X).frames ∧ 8 + (maxL + 11) + (Frm fr lo).locals ≤ (xR X).locals := ⟨Nat.le_trans hro.1 hR.1, by have := hR.2.1; show 8 + (maxL + 11) + lo ≤ _; omega⟩
  have hw : 2 * 0 + (rest.map fun v => v.category).sum ≤ 8 := by omega
  exact va_calli (va_runS (As := Ax E) (rest := rest) ⟨hx, hb, hml, hown, hts⟩ (hc (xl X) E) (va_cwS n hts (lw_goodA (lw_goodc hl (lw_goodc hM.2.1 (lw_goodc hM.2.2.1 lw_good0))) (lw_goodc hM.1 lw_good)) rfl rfl rfl hM.2.2.2 hroom) ⟨PcD_blind E _ A, hpre⟩ rfl hn h3.1 rfl hw hd ⟨hR.2.2.1, hR.2.2.2⟩) h2 (fun q _ h => h) (fun q h => h) (fun r u t H1 locs1 ht hvm hp hB hz1 hk1 hS => by obtain ⟨b, rfl, hp⟩ := hp; exact k b u hp H1 locs1 ls (by rw [← ht]; exact hB) hS h3)
theorem g_callS_D (hX : Gd X E own cc) (hR : Rm X F Q) {y : MethodName} {bytes : ByteArray} {maxL index n fr lo : Nat} {Ax : EVT → List Value} {post : UInt64 → Mem → Prop} {As st : List Value} (hl : Cond.methodLink own index y ∈ gtb) (hM : MFs y bytes maxL (some .double) n)
    (hc : CtD y bytes maxL fr lo (fun E9 => Ax E9) A post) (hAs : Ax E = As) (hst : st = As.reverse ++ rest) (hn : As.length = n) (hro : fr + 1 ≤ F ∧ maxL + 19 + lo ≤ Q) (hw4 : (rest.map fun v => v.category).sum ≤ 8) (hd : decode cc pc = .ok (.invokestatic index, 3))
    (k : ∀ (r : UInt64) (A9 : Mem), post r A9 → G X E A9 (pc + 3) lv (.double r :: rest)) : G X E A pc lv st := by
  subst hst; subst hAs
  intro H locs ls h1 h2 h3
  obtain ⟨hx, hb, hml, hown, hts, hEF, hlk⟩ := hX
  have hpre : ∀ U : State, U.heap = H → (xs X).WarmedH U.vm → PcD E (Ax E) A (Ax E).toArray U := fun U hU hW => ⟨rfl, EF_mv hEF h2 hU hW, by rw [hU]; exact h1⟩
  have hroom : (Frm fr lo).frames + 1 ≤ (xR X).frames ∧ 8 + (maxL + 11) + (Frm fr lo).locals ≤ (xR X).locals := ⟨Nat.le_trans hro.1 hR.1, by have := hR.2.1; show 8 + (maxL + 11) + lo ≤ _; omega⟩
  have hw : 2 * 0 + (rest.map fun v => v.category).sum ≤ 8 := by omega
  exact va_calld (va_runS (As := Ax E) (rest := rest) ⟨hx, hb, hml, hown, hts⟩ (hc (xl X) E) (va_cwS n hts (lw_goodA (lw_goodc hl (lw_goodc hM.2.1 (lw_goodc hM.2.2.1 lw_good0))) (lw_goodc hM.1 lw_good)) rfl rfl rfl hM.2.2.2 hroom) ⟨PcD_blind E _ A, hpre⟩ rfl hn h3.1 rfl hw hd ⟨hR.2.2.1, hR.2.2.2⟩) h2 (fun q _ h => h) (fun q h => h) (fun r u t H1 locs1 ht hvm hp hB hz1 hk1 hS => k r u hp H1 locs1 ls (by rw [← ht]; exact hB) hS h3)
theorem g_callS_J (hX : Gd X E own cc) (hR : Rm X F Q) {y : MethodName} {bytes : ByteArray} {maxL index n fr lo : Nat} {Ax : EVT → List Value} {post : Int64 → Mem → Prop} {As st : List Value} (hl : Cond.methodLink own index y ∈ gtb) (hM : MFs y bytes maxL (some .long) n)
    (hc : CtJ y bytes maxL fr lo (fun E9 => Ax E9) A post) (hAs : Ax E = As) (hst : st = As.reverse ++ rest) (hn : As.length = n) (hro : fr + 1 ≤ F ∧ maxL + 19 + lo ≤ Q) (hw4 : (rest.map fun v => v.category).sum ≤ 8) (hd : decode cc pc = .ok (.invokestatic index, 3))
    (k : ∀ (r : Int64) (A9 : Mem), post r A9 → G X E A9 (pc + 3) lv (.long r :: rest)) : G X E A pc lv st := by
  subst hst; subst hAs
  intro H locs ls h1 h2 h3
  obtain ⟨hx, hb, hml, hown, hts, hEF, hlk⟩ := hX
  have hpre : ∀ U : State, U.heap = H → (xs X).WarmedH U.vm → PcD E (Ax E) A (Ax E).toArray U := fun U hU hW => ⟨rfl, EF_mv hEF h2 hU hW, by rw [hU]; exact h1⟩
  have hroom : (Frm fr lo).frames + 1 ≤ (xR X).frames ∧ 8 + (maxL + 11) + (Frm fr lo).locals ≤ (xR X).locals := ⟨Nat.le_trans hro.1 hR.1, by have := hR.2.1; show 8 + (maxL + 11) + lo ≤ _; omega⟩
  have hw : 2 * 0 + (rest.map fun v => v.category).sum ≤ 8 := by omega
  exact va_calll (va_runS (As := Ax E) (rest := rest) ⟨hx, hb, hml, hown, hts⟩ (hc (xl X) E) (va_cwS n hts (lw_goodA (lw_goodc hl (lw_goodc hM.2.1 (lw_goodc hM.2.2.1 lw_good0))) (lw_goodc hM.1 lw_good)) rfl rfl rfl hM.2.2.2 hroom) ⟨PcD_blind E _ A, hpre⟩ rfl hn h3.1 rfl hw hd ⟨hR.2.2.1, hR.2.2.2⟩) h2 (fun q _ h => h) (fun q h => h) (fun r u t H1 locs1 ht hvm hp hB hz1 hk1 hS => k r u hp H1 locs1 ls (by rw [← ht]; exact hB) hS h3)
theorem g_callS_V (hX : Gd X E own cc) (hR : Rm X F Q) {y : MethodName} {bytes : ByteArray} {maxL index n fr lo : Nat} {Ax : EVT → List Value} {post : Mem → Prop} {As st : List Value} (hl : Cond.methodLink own index y ∈ gtb) (hM : MFs y bytes maxL none n)
    (hc : CtV y bytes maxL fr lo (fun E9 => Ax E9) A post) (hAs : Ax E = As) (hst : st = As.reverse ++ rest) (hn : As.length = n) (hro : fr + 1 ≤ F ∧ maxL + 19 + lo ≤ Q) (hw4 : (rest.map fun v => v.category).sum ≤ 8) (hd : decode cc pc = .ok (.invokestatic index, 3))
    (k : ∀ A9 : Mem, post A9 → G X E A9 (pc + 3) lv rest) : G X E A pc lv st := by
  subst hst; subst hAs
  intro H locs ls h1 h2 h3
  obtain ⟨hx, hb, hml, hown, hts, hEF, hlk⟩ := hX
  have hpre : ∀ U : State, U.heap = H → (xs X).WarmedH U.vm → PcD E (Ax E) A (Ax E).toArray U := fun U hU hW => ⟨rfl, EF_mv hEF h2 hU hW, by rw [hU]; exact h1⟩
  have hroom : (Frm fr lo).frames + 1 ≤ (xR X).frames ∧ 8 + (maxL + 11) + (Frm fr lo).locals ≤ (xR X).locals := ⟨Nat.le_trans hro.1 hR.1, by have := hR.2.1; show 8 + (maxL + 11) + lo ≤ _; omega⟩
  have hw : 2 * 0 + (rest.map fun v => v.category).sum ≤ 8 := by omega
  exact va_callv (va_runS (As := Ax E) (rest := rest) ⟨hx, hb, hml, hown, hts⟩ (hc (xl X) E) (va_cwS n hts (lw_goodA (lw_goodc hl (lw_goodc hM.2.1 (lw_goodc hM.2.2.1 lw_good0))) (lw_goodc hM.1 lw_good)) rfl rfl rfl hM.2.2.2 hroom) ⟨PcD_blind E _ A, hpre⟩ rfl hn h3.1 rfl hw hd ⟨hR.2.2.1, hR.2.2.2⟩) h2 (fun q _ h => h) (fun q h => h) (fun u t H1 locs1 ht hvm hp hB hz1 hk1 hS => k u hp H1 locs1 ls (by rw [← ht]; exact hB) hS h3)
theorem g_callS_N (hX : Gd X E own cc) (hR : Rm X F Q) {y : MethodName} {bytes : ByteArray} {maxL index n fr lo : Nat} {Ax : EVT → List Value} {rt : FieldType} {post : Int32 → Mem → Prop} {As st : List Value} (hl : Cond.methodLink own index y ∈ gtb) (hM : MFs y bytes maxL (some rt) n)
    (hc : CtN y bytes maxL rt fr lo (fun E9 => Ax E9) A post) (hAs : Ax E = As) (hst : st = As.reverse ++ rest) (hn : As.length = n) (hro : fr + 1 ≤ F ∧ maxL + 19 + lo ≤ Q) (hw4 : (rest.map fun v => v.category).sum ≤ 8) (hd : decode cc pc = .ok (.invokestatic index, 3))
    (k : ∀ (r : Int32) (A9 : Mem), post r A9 → G X E A9 (pc + 3) lv (.int r :: rest)) : G X E A pc lv st := by
  subst hst; subst hAs
  intro H locs ls h1 h2 h3
  obtain ⟨hx, hb, hml, hown, hts, hEF, hlk⟩ := hX
  have hpre : ∀ U : State, U.heap = H → (xs X).WarmedH U.vm → PcD E (Ax E) A (Ax E).toArray U := fun U hU hW => ⟨rfl, EF_mv hEF h2 hU hW, by rw [hU]; exact h1⟩
  have hroom : (Frm fr lo).frames + 1 ≤ (xR X).frames ∧ 8 + (maxL + 11) + (Frm fr lo).locals ≤ (xR X).locals := ⟨Nat.le_trans hro.1 hR.1, by have := hR.2.1; show 8 + (maxL + 11) + lo ≤ _; omega⟩
  have hw : 2 * 0 + (rest.map fun v => v.category).sum ≤ 8 := by omega
  exact va_calli (va_runS (As := Ax E) (rest := rest) ⟨hx, hb, hml, hown, hts⟩ (hc (xl X) E) (va_cwS n hts (lw_goodA (lw_goodc hl (lw_goodc hM.2.1 (lw_goodc hM.2.2.1 lw_good0))) (lw_goodc hM.1 lw_good)) rfl rfl rfl hM.2.2.2 hroom) ⟨PcD_blind E _ A, hpre⟩ rfl hn h3.1 rfl hw hd ⟨hR.2.2.1, hR.2.2.2⟩) h2 (fun q _ h => h) (fun q h => h) (fun r u t H1 locs1 ht hvm hp hB hz1 hk1 hS => k r u hp H1 locs1 ls (by rw [← ht]; exact hB) hS h3)
theorem g_callS_R (hX : Gd X E own cc) (hR : Rm X F Q) {y : MethodName} {bytes : ByteArray} {maxL index n fr lo : Nat} {Ax : EVT → List Value} {rt : FieldType} {post : Nat → Mem → Prop} {As st : List Value} (hl : Cond.methodLink own index y ∈ gtb) (hM : MFs y bytes maxL (some rt) n)
    (hc : CtR y bytes maxL rt fr lo (fun E9 => Ax E9) A post) (hAs : Ax E = As) (hst : st = As.reverse ++ rest) (hn : As.length = n) (hro : fr + 1 ≤ F ∧ maxL + 19 + lo ≤ Q) (hw4 : (rest.map fun v => v.category).sum ≤ 8) (hd : decode cc pc = .ok (.invokestatic index, 3))
    (k : ∀ (r : Nat) (A9 : Mem), post r A9 → G X E A9 (pc + 3) lv (cr E r :: rest)) : G X E A pc lv st := by
  subst hst; subst hAs
  intro H locs ls h1 h2 h3
  obtain ⟨hx, hb, hml, hown, hts, hEF, hlk⟩ := hX
  have hpre : ∀ U : State, U.heap = H → (xs X).WarmedH U.vm → PcD E (Ax E) A (Ax E).toArray U := fun U hU hW => ⟨rfl, EF_mv hEF h2 hU hW, by rw [hU]; exact h1⟩
  have hroom : (Frm fr lo).frames + 1 ≤ (xR X).frames ∧ 8 + (maxL + 11) + (Frm fr lo).locals ≤ (xR X).locals := ⟨Nat.le_trans hro.1 hR.1, by have := hR.2.1; show 8 + (maxL + 11) + lo ≤ _; omega⟩
  have hw : 2 * 0 + (rest.map fun v => v.category).sum ≤ 8 := by omega
  exact va_callq (va_runS (As := Ax E) (rest := rest) ⟨hx, hb, hml, hown, hts⟩ (hc (xl X) E) (va_cwS n hts (lw_goodA (lw_goodc hl (lw_goodc hM.2.1 (lw_goodc hM.2.2.1 lw_good0))) (lw_goodc hM.1 lw_good)) rfl rfl rfl hM.2.2.2 hroom) ⟨PcD_blind E _ A, hpre⟩ rfl hn h3.1 rfl hw hd ⟨hR.2.2.1, hR.2.2.2⟩) h2 (fun q _ h => h) (fun q h => h) (fun r u t H1 locs1 ht hvm hp hB hz1 hk1 hS => by obtain ⟨b, rfl, hp⟩ := hp; exact k b u hp H1 locs1 ls (by rw [← ht]; exact hB) hS h3)
theorem g_callSN_I (hX : Gd X E own cc) (hR : Rm X F Q) {y : MethodName} {bytes : ByteArray} {maxL index n fr lo : Nat} {Ax : EVT → List Value} {post : Int32 → Mem → Prop} {As st : List Value} {host : String} (hl : Cond.methodLinkNest own index y host ∈ nestW) (hM : MFs y bytes maxL (some .int) n)
    (hc : CtI y bytes maxL fr lo (fun E9 => Ax E9) A post) (hAs : Ax E = As) (hst : st = As.reverse ++ rest) (hn : As.length = n) (hro : fr + 1 ≤ F ∧ maxL + 19 + lo ≤ Q) (hw4 : (rest.map fun v => v.category).sum ≤ 8) (hd : decode cc pc = .ok (.invokestatic index, 3))
    (k : ∀ (r : Int32) (A9 : Mem), post r A9 → G X E A9 (pc + 3) lv (.int r :: rest)) : G X E A pc lv st := by
  subst hst; subst hAs
  intro H locs ls h1 h2 h3
  obtain ⟨hx, hb, hml, hown, hts, hEF, hlk⟩ := hX
  have hpre : ∀ U : State, U.heap = H → (xs X).WarmedH U.vm → PcD E (Ax E) A (Ax E).toArray U := fun U hU hW => ⟨rfl, EF_mv hEF h2 hU hW, by rw [hU]; exact h1⟩
  have hroom : (Frm fr lo).frames + 1 ≤ (xR X).frames ∧ 8 + (maxL + 11) + (Frm fr lo).locals ≤ (xR X).locals := ⟨Nat.le_trans hro.1 hR.1, by have := hR.2.1; show 8 + (maxL + 11) + lo ≤ _; omega⟩
  have hw : 2 * 0 + (rest.map fun v => v.category).sum ≤ 8 := by omega
  exact va_calli (va_runSN (As := Ax E) (rest := rest) ⟨hx, hb, hml, hown, hts⟩ (hc (xl X) E) ⟨va_cnB n hts (lw_goodc hM.1 lw_good) rfl rfl rfl (hEF.2.2.2.2.1 _ hl) (hts _ hM.2.2.1) hM.2.2.2 hroom, hts _ hM.2.1, trivial⟩ ⟨PcD_blind E _ A, hpre⟩ rfl hn h3.1 rfl hw hd ⟨hR.2.2.1, hR.2.2.2⟩) h2 (fun q _ h => h) (fun q h => h) (fun r u t H1 locs1 ht hvm hp hB hz1 hk1 hS => k r u hp H1 locs1 ls (by rw [← ht]; exact hB) hS h3)
theorem g_callSN_Z (hX : Gd X E own cc) (hR : Rm X F Q) {y : MethodName} {bytes : ByteArray} {maxL index n fr lo : Nat} {Ax : EVT → List Value} {post : Bool → Mem → Prop} {As st : List Value} {host : String} (hl : Cond.methodLinkNest own index y host ∈ nestW) (hM : MFs y bytes maxL (some .boolean) n)
    (hc : CtZ y bytes maxL fr lo (fun E9 => Ax E9) A post) (hAs : Ax E = As) (hst : st = As.reverse ++ rest) (hn : As.length = n) (hro : fr + 1 ≤ F ∧ maxL + 19 + lo ≤ Q) (hw4 : (rest.map fun v => v.category).sum ≤ 8) (hd : decode cc pc = .ok (.invokestatic index, 3))
    (k : ∀ (r : Bool) (A9 : Mem), post r A9 → G X E A9 (pc + 3) lv (.int (bI r) :: rest)) : G X E A pc lv st := by
  subst hst; subst hAs
  intro H locs ls h1 h2 h3
  obtain ⟨hx, hb, hml, hown, hts, hEF, hlk⟩ := hX
  have hpre : ∀ U : State, U.heap = H → (xs X).WarmedH U.vm → PcD E (Ax E) A (Ax E).toArray U := fun U hU hW => ⟨rfl, EF_mv hEF h2 hU hW, by rw [hU]; exact h1⟩
  have hroom : (Frm fr lo).frames + 1 ≤ (xR X).frames ∧ 8 + (maxL + 11) + (Frm fr lo).locals ≤ (xR X).locals := ⟨Nat.le_trans hro.1 hR.1, by have := hR.2.1; show 8 + (maxL + 11) + lo ≤ _; omega⟩
  have hw : 2 * 0 + (rest.map fun v => v.category).sum ≤ 8 := by omega
  exact va_calli (va_runSN (As := Ax E) (rest := rest) ⟨hx, hb, hml, hown, hts⟩ (hc (xl X) E) ⟨va_cnB n hts (lw_goodc hM.1 lw_good) rfl rfl rfl (hEF.2.2.2.2.1 _ hl) (hts _ hM.2.2.1) hM.2.2.2 hroom, hts _ hM.2.1, trivial⟩ ⟨PcD_blind E _ A, hpre⟩ rfl hn h3.1 rfl hw hd ⟨hR.2.2.1, hR.2.2.2⟩) h2 (fun q _ h => h) (fun q h => h) (fun r u t H1 locs1 ht hvm hp hB hz1 hk1 hS => by obtain ⟨b, rfl, hp⟩ := hp; exact k b u hp H1 locs1 ls (by rw [← ht]; exact hB) hS h3)
theorem g_callSN_D (hX : Gd X E own cc) (hR : Rm X F Q) {y : MethodName} {bytes : ByteArray} {maxL index n fr lo : Nat} {Ax : EVT → List Value} {post : UInt64 → Mem → Prop} {As st : List Value} {host : String} (hl : Cond.methodLinkNest own index y host ∈ nestW) (hM : MFs y bytes maxL (some .double) n)
    (hc : CtD y bytes maxL fr lo (fun E9 => Ax E9) A post) (hAs : Ax E = As) (hst : st = As.reverse ++ rest) (hn : As.length = n) (hro : fr + 1 ≤ F ∧ maxL + 19 + lo ≤ Q) (hw4 : (rest.map fun v => v.category).sum ≤ 8) (hd : decode cc pc = .ok (.invokestatic index, 3))
    (k : ∀ (r : UInt64) (A9 : Mem), post r A9 → G X E A9 (pc + 3) lv (.double r :: rest)) : G X E A pc lv st := by
  subst hst; subst hAs
  intro H locs ls h1 h2 h3
  obtain ⟨hx, hb, hml, hown, hts, hEF, hlk⟩ := hX
  have hpre : ∀ U : State, U.heap = H → (xs X).WarmedH U.vm → PcD E (Ax E) A (Ax E).toArray U := fun U hU hW => ⟨rfl, EF_mv hEF h2 hU hW, by rw [hU]; exact h1⟩
  have hroom : (Frm fr lo).frames + 1 ≤ (xR X).frames ∧ 8 + (maxL + 11) + (Frm fr lo).locals ≤ (xR X).locals := ⟨Nat.le_trans hro.1 hR.1, by have := hR.2.1; show 8 + (maxL + 11) + lo ≤ _; omega⟩
  have hw : 2 * 0 + (rest.map fun v => v.category).sum ≤ 8 := by omega
  exact va_calld (va_runSN (As := Ax E) (rest := rest) ⟨hx, hb, hml, hown, hts⟩ (hc (xl X) E) ⟨va_cnB n hts (lw_goodc hM.1 lw_good) rfl rfl rfl (hEF.2.2.2.2.1 _ hl) (hts _ hM.2.2.1) hM.2.2.2 hroom, hts _ hM.2.1, trivial⟩ ⟨PcD_blind E _ A, hpre⟩ rfl hn h3.1 rfl hw hd ⟨hR.2.2.1, hR.2.2.2⟩) h2 (fun q _ h => h) (fun q h => h) (fun r u t H1 locs1 ht hvm hp hB hz1 hk1 hS => k r u hp H1 locs1 ls (by rw [← ht]; exact hB) hS h3)
theorem g_callSN_J (hX : Gd X E own cc) (hR : Rm X F Q) {y : MethodName} {bytes : ByteArray} {maxL index n fr lo : Nat} {Ax : EVT → List Value} {post : Int64 → Mem → Prop} {As st : List Value} {host : String} (hl : Cond.methodLinkNest own index y host ∈ nestW) (hM : MFs y bytes maxL (some .long) n)
    (hc : CtJ y bytes maxL fr lo (fun E9 => Ax E9) A post) (hAs : Ax E = As) (hst : st = As.reverse ++ rest) (hn : As.length = n) (hro : fr + 1 ≤ F ∧ maxL + 19 + lo ≤ Q) (hw4 : (rest.map fun v => v.category).sum ≤ 8) (hd : decode cc pc = .ok (.invokestatic index, 3))
    (k : ∀ (r : Int64) (A9 : Mem), post r A9 → G X E A9 (pc + 3) lv (.long r :: rest)) : G X E A pc lv st := by
  subst hst; subst hAs
  intro H locs ls h1 h2 h3
  obtain ⟨hx, hb, hml, hown, hts, hEF, hlk⟩ := hX
  have hpre : ∀ U : State, U.heap = H → (xs X).WarmedH U.vm → PcD E (Ax E) A (Ax E).toArray U := fun U hU hW => ⟨rfl, EF_mv hEF h2 hU hW, by rw [hU]; exact h1⟩
  have hroom : (Frm fr lo).frames + 1 ≤ (xR X).frames ∧ 8 + (maxL + 11) + (Frm fr lo).locals ≤ (xR X).locals := ⟨Nat.le_trans hro.1 hR.1, by have := hR.2.1; show 8 + (maxL + 11) + lo ≤ _; omega⟩
  have hw : 2 * 0 + (rest.map fun v => v.category).sum ≤ 8 := by omega
  exact va_calll (va_runSN (As := Ax E) (rest := rest) ⟨hx, hb, hml, hown, hts⟩ (hc (xl X) E) ⟨va_cnB n hts (lw_goodc hM.1 lw_good) rfl rfl rfl (hEF.2.2.2.2.1 _ hl) (hts _ hM.2.2.1) hM.2.2.2 hroom, hts _ hM.2.1, trivial⟩ ⟨PcD_blind E _ A, hpre⟩ rfl hn h3.1 rfl hw hd ⟨hR.2.2.1, hR.2.2.2⟩) h2 (fun q _ h => h) (fun q h => h) (fun r u t H1 locs1 ht hvm hp hB hz1 hk1 hS => k r u hp H1 locs1 ls (by rw [← ht]; exact hB) hS h3)
theorem g_callSN_V (hX : Gd X E own cc) (hR : Rm X F Q) {y : MethodName} {bytes : ByteArray} {maxL index n fr lo : Nat} {Ax : EVT → List Value} {post : Mem → Prop} {As st : List Value} {host : String} (hl : Cond.methodLinkNest own index y host ∈ nestW) (hM : MFs y bytes maxL none n)
    (hc : CtV y bytes maxL fr lo (fun E9 => Ax E9) A post) (hAs : Ax E = As) (hst : st = As.reverse ++ rest) (hn : As.length = n) (hro : fr + 1 ≤ F ∧ maxL + 19 + lo ≤ Q) (hw4 : (rest.map fun v => v.category).sum ≤ 8) (hd : decode cc pc = .ok (.invokestatic index, 3))
    (k : ∀ A9 : Mem, post A9 → G X E A9 (pc + 3) lv rest) : G X E A pc lv st := by
  subst hst; subst hAs
  intro H locs ls h1 h2 h3
  obtain ⟨hx, hb, hml, hown, hts, hEF, hlk⟩ := hX
  have hpre : ∀ U : State, U.heap = H → (xs X).WarmedH U.vm → PcD E (Ax E) A (Ax E).toArray U := fun U hU hW => ⟨rfl, EF_mv hEF h2 hU hW, by rw [hU]; exact h1⟩
  have hroom : (Frm fr lo).frames + 1 ≤ (xR X).frames ∧ 8 + (maxL + 11) + (Frm fr lo).locals ≤ (xR X).locals := ⟨Nat.le_trans hro.1 hR.1, by have := hR.2.1; show 8 + (maxL + 11) + lo ≤ _; omega⟩
  have hw : 2 * 0 + (rest.map fun v => v.category).sum ≤ 8 := by omega
  exact va_callv (va_runSN (As := Ax E) (rest := rest) ⟨hx, hb, hml, hown, hts⟩ (hc (xl X) E) ⟨va_cnB n hts (lw_goodc hM.1 lw_good) rfl rfl rfl (hEF.2.2.2.2.1 _ hl) (hts _ hM.2.2.1) hM.2.2.2 hroom, hts _ hM.2.1, trivial⟩ ⟨PcD_blind E _ A, hpre⟩ rfl hn h3.1 rfl hw hd ⟨hR.2.2.1, hR.2.2.2⟩) h2 (fun q _ h => h) (fun q h => h) (fun u t H1 locs1 ht hvm hp hB hz1 hk1 hS => k u hp H1 locs1 ls (by rw [← ht]; exact hB) hS h3)
theorem g_callSN_N (hX : Gd X E own cc) (hR : Rm X F Q) {y : MethodName} {bytes : ByteArray} {maxL index n fr lo : Nat} {Ax : EVT → List Value} {rt : FieldType} {post : Int32 → Mem → Prop} {As st : List Value} {host : String} (hl : Cond.methodLinkNest own index y host ∈ nestW) (hM : MFs y bytes maxL (some rt) n)
    (hc : CtN y bytes maxL rt fr lo (fun E9 => Ax E9) A post) (hAs : Ax E = As) (hst : st = As.reverse ++ rest) (hn : As.length = n) (hro : fr + 1 ≤ F ∧ maxL + 19 + lo ≤ Q) (hw4 : (rest.map fun v => v.category).sum ≤ 8) (hd : decode cc pc = .ok (.invokestatic index, 3))
    (k : ∀ (r : Int32) (A9 : Mem), post r A9 → G X E A9 (pc + 3) lv (.int r :: rest)) : G X E A pc lv st := by
  subst hst; subst hAs
  intro H locs ls h1 h2 h3
  obtain ⟨hx, hb, hml, hown, hts, hEF, hlk⟩ := hX
  have hpre : ∀ U : State, U.heap = H → (xs X).WarmedH U.vm → PcD E (Ax E) A (Ax E).toArray U := fun U hU hW => ⟨rfl, EF_mv hEF h2 hU hW, by rw [hU]; exact h1⟩
  have hroom : (Frm fr lo).frames + 1 ≤ (xR X).frames ∧ 8 + (maxL + 11) + (Frm fr lo).locals ≤ (xR X).locals := ⟨Nat.le_trans hro.1 hR.1, by have := hR.2.1; show 8 + (maxL + 11) + lo ≤ _; omega⟩
  have hw : 2 * 0 + (rest.map fun v => v.category).sum ≤ 8 := by omega
  exact va_calli (va_runSN (As := Ax E) (rest := rest) ⟨hx, hb, hml, hown, hts⟩ (hc (xl X) E) ⟨va_cnB n hts (lw_goodc hM.1 lw_good) rfl rfl rfl (hEF.2.2.2.2.1 _ hl) (hts _ hM.2.2.1) hM.2.2.2 hroom, hts _ hM.2.1, trivial⟩ ⟨PcD_blind E _ A, hpre⟩ rfl hn h3.1 rfl hw hd ⟨hR.2.2.1, hR.2.2.2⟩) h2 (fun q _ h => h) (fun q h => h) (fun r u t H1 locs1 ht hvm hp hB hz1 hk1 hS => k r u hp H1 locs1 ls (by rw [← ht]; exact hB) hS h3)
theorem g_callSN_R (hX : Gd X E own cc) (hR : Rm X F Q) {y : MethodName} {bytes : ByteArray} {maxL index n fr lo : Nat} {Ax : EVT → List Value} {rt : FieldType} {post : Nat → Mem → Prop} {As st : List Value} {host : String} (hl : Cond.methodLinkNest own index y host ∈ nestW) (hM : MFs y bytes maxL (some rt) n)
    (hc : CtR y bytes maxL rt fr lo (fun E9 => Ax E9) A post) (hAs : Ax E = As) (hst : st = As.reverse ++ rest) (hn : As.length = n) (hro : fr + 1 ≤ F ∧ maxL + 19 + lo ≤ Q) (hw4 : (rest.map fun v => v.category).sum ≤ 8) (hd : decode cc pc = .ok (.invokestatic index, 3))
    (k : ∀ (r : Nat) (A9 : Mem), post r A9 → G X E A9 (pc + 3) lv (cr E r :: rest)) : G X E A pc lv st := by
  subst hst; subst hAs
  intro H locs ls h1 h2 h3
  obtain ⟨hx, hb, hml, hown, hts, hEF, hlk⟩ := hX
  have hpre : ∀ U : State, U.heap = H → (xs X).WarmedH U.vm → PcD E (Ax E) A (Ax E).toArray U := fun U hU hW => ⟨rfl, EF_mv hEF h2 hU hW, by rw [hU]; exact h1⟩
  have hroom : (Frm fr lo).frames + 1 ≤ (xR X).frames ∧ 8 + (maxL + 11) + (Frm fr lo).locals ≤ (xR X).locals := ⟨Nat.le_trans hro.1 hR.1, by have := hR.2.1; show 8 + (maxL + 11) + lo ≤ _; omega⟩
  have hw : 2 * 0 + (rest.map fun v => v.category).sum ≤ 8 := by omega
  exact va_callq (va_runSN (As := Ax E) (rest := rest) ⟨hx, hb, hml, hown, hts⟩ (hc (xl X) E) ⟨va_cnB n hts (lw_goodc hM.1 lw_good) rfl rfl rfl (hEF.2.2.2.2.1 _ hl) (hts _ hM.2.2.1) hM.2.2.2 hroom, hts _ hM.2.1, trivial⟩ ⟨PcD_blind E _ A, hpre⟩ rfl hn h3.1 rfl hw hd ⟨hR.2.2.1, hR.2.2.2⟩) h2 (fun q _ h => h) (fun q h => h) (fun r u t H1 locs1 ht hvm hp hB hz1 hk1 hS => by obtain ⟨b, rfl, hp⟩ := hp; exact k b u hp H1 locs1 ls (by rw [← ht]; exact hB) hS h3)
def QI (X : CXT) (E : EVT) (post : Int32 → Mem → Prop) : Prop := xQ X = MQ (xb X) (va_Qi post (RelT E) (eA E)) (xa X) (xs X) (xcells X) (xslots X) (eA E) ∧ (xmeth X).sig.returnType = some .int
def QZ (X : CXT) (E : EVT) (post : Bool → Mem → Prop) : Prop := xQ X = MQ (xb X) (va_Qi (fun r A9 => ∃ b : Bool, r = bI b ∧ post b A9) (RelT E) (eA E)) (xa X) (xs X) (xcells X) (xslots X) (eA E) ∧ (xmeth X).sig.returnType = some .boolean
def QD (X : CXT) (E : EVT) (post : UInt64 → Mem → Prop) : Prop := xQ X = MQ (xb X) (va_Qd post (RelT E) (eA E)) (xa X) (xs X) (xcells X) (xslots X) (eA E) ∧ (xmeth X).sig.returnType = some .double
def QJ (X : CXT) (E : EVT) (post : Int64 → Mem → Prop) : Prop := xQ X = MQ (xb X) (va_Ql post (RelT E) (eA E)) (xa X) (xs X) (xcells X) (xslots X) (eA E) ∧ (xmeth X).sig.returnType = some .long
def QV (X : CXT) (E : EVT) (post : Mem → Prop) : Prop := xQ X = MQ (xb X) (va_Qv post (RelT E) (eA E)) (xa X) (xs X) (xcells X) (xslots X) (eA E) ∧ (xmeth X).sig.returnType = none
def QN (X : CXT) (E : EVT) (rt : FieldType) (post : Int32 → Mem → Prop) : Prop := xQ X = MQ (xb X) (va_Qi post (RelT E) (eA E)) (xa X) (xs X) (xcells X) (xslots X) (eA E) ∧ (xmeth X).sig.returnType = some rt
def QR (X : CXT) (E : EVT) (rt : FieldType) (post : Nat → Mem → Prop) : Prop := xQ X = MQ (xb X) (va_Qq (fun r A9 => ∃ k : Nat, r = ro E k ∧ post k A9) (RelT E) (eA E)) (xa X) (xs X) (xcells X) (xslots X) (eA E) ∧ (xmeth X).sig.returnType = some rt ∧ ((∃ n, rt = .object n) ∨ ∃ t, rt = .array t)
theorem g_iret (hX : Gd X E own cc) {post : Int32 → Mem → Prop} (hQ : QI X E post) {v : Int32} (hp : post v A) (hd : decode cc pc = .ok (.ireturn, 1)) : G X E A pc lv [.int v] := by
  intro H locs ls h1 h2 h3
  rw [hQ.1]
  exact W.iret hX.1 hX.2.1 hQ.2 (fun t ht hW => ⟨⟨v, A, rfl, hp, by show Rel E A t.heap; rw [ht]; exact h1⟩, h2.F ht⟩) h2.2.2 hd hX.2.2.2.2.2.2
theorem g_zret (hX : Gd X E own cc) {post : Bool → Mem → Prop} (hQ : QZ X E post) {v : Int32} (b : Bool) (hv : v = bI b) (hp : post b A) (hd : decode cc pc = .ok (.ireturn, 1)) : G X E A pc lv [.int v] := by
  subst hv
  intro H locs ls h1 h2 h3
  rw [hQ.1]
  exact W.zret hX.1 hX.2.1 hQ.2 (bI_nar b) (fun t ht hW => ⟨⟨bI b, A, rfl, ⟨b, rfl, hp⟩, by show Rel E A t.heap; rw [ht]; exact h1⟩, h2.F ht⟩) h2.2.2 hd hX.2.2.2.2.2.2
theorem g_nret (hX : Gd X E own cc) {rt : FieldType} {post : Int32 → Mem → Prop} (hQ : QN X E rt post) {v : Int32} (hn : narrow rt (.int v) = .int v) (hp : post v A) (hd : decode cc pc = .ok (.ireturn, 1)) : G X E A pc lv [.int v] := by
  intro H locs ls h1 h2 h3
  rw [hQ.1]
  exact W.zret hX.1 hX.2.1 hQ.2 hn (fun t ht hW => ⟨⟨v, A, rfl, hp, by show Rel E A t.heap; rw [ht]; exact h1⟩, h2.F ht⟩) h2.2.2 hd hX.2.2.2.2.2.2
theorem g_dret (hX : Gd X E own cc) {post : UInt64 → Mem → Prop} (hQ : QD X E post) {v : UInt64} (hp : post v A) (hd : decode cc pc = .ok (.dreturn, 1)) : G X E A pc lv [.double v] := by
  intro H locs ls h1 h2 h3
  rw [hQ.1]
  exact W.dret hX.1 hX.2.1 hQ.2 (fun t ht hW => ⟨⟨v, A, rfl, hp, by show Rel E A t.heap; rw [ht]; exact h1⟩, h2.F ht⟩) h2.2.2 hd hX.2.2.2.2.2.2
theorem g_lret (hX : Gd X E own cc) {post : Int64 → Mem → Prop} (hQ : QJ X E post) {v : Int64} (hp : post v A) (hd : decode cc pc = .ok (.lreturn, 1)) : G X E A pc lv [.long v] := by
  intro H locs ls h1 h2 h3
  rw [hQ.1]
  exact W.lret hX.1 hX.2.1 hQ.2 (fun t ht hW => ⟨⟨v, A, rfl, hp, by show Rel E A t.heap; rw [ht]; exact h1⟩, h2.F ht⟩) h2.2.2 hd hX.2.2.2.2.2.2
theorem g_vret (hX : Gd X E own cc) {post : Mem → Prop} (hQ : QV X E post) (hp : post A) (hd : decode cc pc = .ok (.return_, 1)) : G X E A pc lv [] := by
  intro H locs ls h1 h2 h3
  rw [hQ.1]
  exact W.vret hX.1 hX.2.1 hQ.2 (fun t ht hW => ⟨⟨A, rfl, hp, by show Rel E A t.heap; rw [ht]; exact h1⟩, h2.F ht⟩) h2.2.2 hd hX.2.2.2.2.2.2
theorem g_aret (hX : Gd X E own cc) {rt : FieldType} {post : Nat → Mem → Prop} (hQ : QR X E rt post) {v : Nat} (hp : post v A) (hd : decode cc pc = .ok (.areturn, 1)) : G X E A pc lv [cr E v] := by
  intro H locs ls h1 h2 h3
  rw [hQ.1]
  exact W.aret (v := cr E v) hX.1 hX.2.1 hQ.2.1 hQ.2.2 (va_rf_or (ro E v)) (fun t ht hW => ⟨⟨ro E v, A, rfl, ⟨v, rfl, hp⟩, by show Rel E A t.heap; rw [ht]; exact h1⟩, h2.F ht⟩) h2.2.2 hd hX.2.2.2.2.2.2
end GC
theorem ctI_of {y : MethodName} {cc : ByteArray} {maxL fr lo : Nat} {av : EVT → List Value} {A : Mem} {post : Int32 → Mem → Prop} (own : String) (hy : plainName y.cls = true) (ho : y.cls = own) (lv0 : EVT → List (Nat × Value)) (hlen : ∀ E, (lg_sl (av E)).length ≤ maxL) (hlv : ∀ E, ∀ q ∈ lv0 E, q ∈ lv_args 0 (av E))
    (walk : ∀ (X : CXT) (E : EVT), Gd X E own cc → Rm X fr lo → xnL X = maxL → QI X E post → G X E A 0 (lv0 E) []) : CtI y cc maxL fr lo av A post := by
  intro l E
  refine Met.ofW (cc := cc) (maxL := maxL) (ret := some .int) hy rfl ?_
  intro p e s m args below meth c s₁ B hml hv
  obtain ⟨rfl, hEF, hRel⟩ := hv
  have hts := atoms_spec (ws := wsY y cc maxL (some .int)) B.pre
  rw [lg_entry_eq]
  refine walk (p, l, e, (headSpec (wsY y cc maxL (some .int)) (Frm fr lo)).room, s, m, (av E).toArray, below, meth, c, 0, 0, _, maxL) E ⟨B.exec, B.bytes, hml, ho ▸ findClass_of_methodNamed B.named, fun w h => hts w (List.mem_cons_of_mem _ h), hEF, B.notSynchronized⟩ ⟨Nat.le_refl _, Nat.le_refl _, Nat.le_refl _, Nat.le_refl _⟩ rfl ⟨rfl, B.returns⟩ s.heap [] _ hRel va_S.rf (g_lvm (lv_entry (av E) (hlen E)) (hlv E))
theorem ctZ_of {y : MethodName} {cc : ByteArray} {maxL fr lo : Nat} {av : EVT → List Value} {A : Mem} {post : Bool → Mem → Prop} (own : String) (hy : plainName y.cls = true) (ho : y.cls = own) (lv0 : EVT → List (Nat × Value)) (hlen : ∀ E, (lg_sl (av E)).length ≤ maxL) (hlv : ∀ E, ∀ q ∈ lv0 E, q ∈ lv_args 0 (av E))
    (walk : ∀ (X : CXT) (E : EVT), Gd X E own cc → Rm X fr lo → xnL X = maxL → QZ X E post → G X E A 0 (lv0 E) []) : CtZ y cc maxL fr lo av A post := by
  intro l E
  refine Met.ofW (cc := cc) (maxL := maxL) (ret := some .boolean) hy rfl ?_
  intro p e s m args below meth c s₁ B hml hv
  obtain ⟨rfl, hEF, hRel⟩ := hv
  have hts := atoms_spec (ws := wsY y cc maxL (some .boolean)) B.pre
  rw [lg_entry_eq]
  refine walk (p, l, e, (headSpec (wsY y cc maxL (some .boolean)) (Frm fr lo)).room, s, m, (av E).toArray, below, meth, c, 0, 0, _, maxL) E ⟨B.exec, B.bytes, hml, ho ▸ findClass_of_methodNamed B.named, fun w h => hts w (List.mem_cons_of_mem _ h), hEF, B.notSynchronized⟩ ⟨Nat.le_refl _, Nat.le_refl _, Nat.le_refl _, Nat.le_refl _⟩ rfl ⟨rfl, B.returns⟩ s.heap [] _ hRel va_S.rf (g_lvm (lv_entry (av E) (hlen E)) (hlv E))
theorem ctD_of {y : MethodName} {cc : ByteArray} {maxL fr lo : Nat} {av : EVT → List Value} {A : Mem} {post : UInt64 → Mem → Prop} (own : String) (hy : plainName y.cls = true) (ho : y.cls = own) (lv0 : EVT → List (Nat × Value)) (hlen : ∀ E, (lg_sl (av E)).length ≤ maxL) (hlv : ∀ E, ∀ q ∈ lv0 E, q ∈ lv_args 0 (av E))
    (walk : ∀ (X : CXT) (E : EVT), Gd X E own cc → Rm X fr lo → xnL X = maxL → QD X E post → G X E A 0 (lv0 E) []) : CtD y cc maxL fr lo av A post := by
  intro l E
  refine Met.ofW (cc := cc) (maxL := maxL) (ret := some .double) hy rfl ?_
  intro p e s m args below meth c s₁ B hml hv
  obtain ⟨rfl, hEF, hRel⟩ := hv
  have hts := atoms_spec (ws := wsY y cc maxL (some .double)) B.pre
  rw [lg_entry_eq]
  refine walk (p, l, e, (headSpec (wsY y cc maxL (some .double)) (Frm fr lo)).room, s, m, (av E).toArray, below, meth, c, 0, 0, _, maxL) E ⟨B.exec, B.bytes, hml, ho ▸ findClass_of_methodNamed B.named, fun w h => hts w (List.mem_cons_of_mem _ h), hEF, B.notSynchronized⟩ ⟨Nat.le_refl _, Nat.le_refl _, Nat.le_refl _, Nat.le_refl _⟩ rfl ⟨rfl, B.returns⟩ s.heap [] _ hRel va_S.rf (g_lvm (lv_entry (av E) (hlen E)) (hlv E))
theorem ctJ_of {y : MethodName} {cc : ByteArray} {maxL fr lo : Nat} {av : EVT → List Value} {A : Mem} {post : Int64 → Mem → Prop} (own : String) (hy : plainName y.cls = true) (ho : y.cls = own) (lv0 : EVT → List (Nat × Value)) (hlen : ∀ E, (lg_sl (av E)).length ≤ maxL) (hlv : ∀ E, ∀ q ∈ lv0 E, q ∈ lv_args 0 (av E))
    (walk : ∀ (X : CXT) (E : EVT), Gd X E own cc → Rm X fr lo → xnL X = maxL → QJ X E post → G X E A 0 (lv0 E) []) : CtJ y cc maxL fr lo av A post := by
  intro l E
  refine Met.ofW (cc := cc) (maxL := maxL) (ret := some .long) hy rfl ?_
  intro p e s m args below meth c s₁ B hml hv
  obtain ⟨rfl, hEF, hRel⟩ := hv
  have hts := atoms_spec (ws := wsY y cc maxL (some .long)) B.pre
  rw [lg_entry_eq]
  refine walk (p, l, e, (headSpec (wsY y cc maxL (some .long)) (Frm fr lo)).room, s, m, (av E).toArray, below, meth, c, 0, 0, _, maxL) E ⟨B.exec, B.bytes, hml, ho ▸ findClass_of_methodNamed B.named, fun w h => hts w (List.mem_cons_of_mem _ h), hEF, B.notSynchronized⟩ ⟨Nat.le_refl _, Nat.le_refl _, Nat.le_refl _, Nat.le_refl _⟩ rfl ⟨rfl, B.returns⟩ s.heap [] _ hRel va_S.rf (g_lvm (lv_entry (av E) (hlen E)) (hlv E))
theorem ctV_of {y : MethodName} {cc : ByteArray} {maxL fr lo : Nat} {av : EVT → List Value} {A : Mem} {post : Mem → Prop} (own : String) (hy : plainName y.cls = true) (ho : y.cls = own) (lv0 : EVT → List (Nat × Value)) (hlen : ∀ E, (lg_sl (av E)).length ≤ maxL) (hlv : ∀ E, ∀ q ∈ lv0 E, q ∈ lv_args 0 (av E))
    (walk : ∀ (X : CXT) (E : EVT), Gd X E own cc → Rm X fr lo → xnL X = maxL → QV X E post → G X E A 0 (lv0 E) []) : CtV y cc maxL fr lo av A post := by
  intro l E
  refine Met.ofW (cc := cc) (maxL := maxL) (ret := none) hy rfl ?_
  intro p e s m args below meth c s₁ B hml hv
  obtain ⟨rfl, hEF, hRel⟩ := hv
  have hts := atoms_spec (ws := wsY y cc maxL (none)) B.pre
  rw [lg_entry_eq]
  refine walk (p, l, e, (headSpec (wsY y cc maxL (none)) (Frm fr lo)).room, s, m, (av E).toArray, below, meth, c, 0, 0, _, maxL) E ⟨B.exec, B.bytes, hml, ho ▸ findClass_of_methodNamed B.named, fun w h => hts w (List.mem_cons_of_mem _ h), hEF, B.notSynchronized⟩ ⟨Nat.le_refl _, Nat.le_refl _, Nat.le_refl _, Nat.le_refl _⟩ rfl ⟨rfl, B.returns⟩ s.heap [] _ hRel va_S.rf (g_lvm (lv_entry (av E) (hlen E)) (hlv E))
theorem ctN_of {y : MethodName} {cc : ByteArray} {maxL fr lo : Nat} {rt : FieldType} {av : EVT → List Value} {A : Mem} {post : Int32 → Mem → Prop} (own : String) (hy : plainName y.cls = true) (ho : y.cls = own) (lv0 : EVT → List (Nat × Value)) (hlen : ∀ E, (lg_sl (av E)).length ≤ maxL) (hlv : ∀ E, ∀ q ∈ lv0 E, q ∈ lv_args 0 (av E))
    (walk : ∀ (X : CXT) (E : EVT), Gd X E own cc → Rm X fr lo → xnL X = maxL → QN X E rt post → G X E A 0 (lv0 E) []) : CtN y cc maxL rt fr lo av A post := by
  intro l E
  refine Met.ofW (cc := cc) (maxL := maxL) (ret := some rt) hy rfl ?_
  intro p e s m args below meth c s₁ B hml hv
  obtain ⟨rfl, hEF, hRel⟩ := hv
  have hts := atoms_spec (ws := wsY y cc maxL (some rt)) B.pre
  rw [lg_entry_eq]
  refine walk (p, l, e, (headSpec (wsY y cc maxL (some rt)) (Frm fr lo)).room, s, m, (av E).toArray, below, meth, c, 0, 0, _, maxL) E ⟨B.exec, B.bytes, hml, ho ▸ findClass_of_methodNamed B.named, fun w h => hts w (List.mem_cons_of_mem _ h), hEF, B.notSynchronized⟩ ⟨Nat.le_refl _, Nat.le_refl _, Nat.le_refl _, Nat.le_refl _⟩ rfl ⟨rfl, B.returns⟩ s.heap [] _ hRel va_S.rf (g_lvm (lv_entry (av E) (hlen E)) (hlv E))
theorem ctR_of {y : MethodName} {cc : ByteArray} {maxL fr lo : Nat} {rt : FieldType} {av : EVT → List Value} {A : Mem} {post : Nat → Mem → Prop} (own : String) (hy : plainName y.cls = true) (ho : y.cls = own) (hrt : (∃ n, rt = .object n) ∨ ∃ t, rt = .array t) (lv0 : EVT → List (Nat × Value)) (hlen : ∀ E, (lg_sl (av E)).length ≤ maxL) (hlv : ∀ E, ∀ q ∈ lv0 E, q ∈ lv_args 0 (av E))
    (walk : ∀ (X : CXT) (E : EVT), Gd X E own cc → Rm X fr lo → xnL X = maxL → QR X E rt post → G X E A 0 (lv0 E) []) : CtR y cc maxL rt fr lo av A post := by
  intro l E
  refine Met.ofW (cc := cc) (maxL := maxL) (ret := some rt) hy rfl ?_
  intro p e s m args below meth c s₁ B hml hv
  obtain ⟨rfl, hEF, hRel⟩ := hv
  have hts := atoms_spec (ws := wsY y cc maxL (some rt)) B.pre
  rw [lg_entry_eq]
  refine walk (p, l, e, (headSpec (wsY y cc maxL (some rt)) (Frm fr lo)).room, s, m, (av E).toArray, below, meth, c, 0, 0, _, maxL) E ⟨B.exec, B.bytes, hml, ho ▸ findClass_of_methodNamed B.named, fun w h => hts w (List.mem_cons_of_mem _ h), hEF, B.notSynchronized⟩ ⟨Nat.le_refl _, Nat.le_refl _, Nat.le_refl _, Nat.le_refl _⟩ rfl ⟨rfl, B.returns, hrt⟩ s.heap [] _ hRel va_S.rf (g_lvm (lv_entry (av E) (hlen E)) (hlv E))
