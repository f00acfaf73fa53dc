def TgK (a : Int32) (es r : List (List SOp)) : Prop := (∃ i, i < 26 ∧ a = iN i ∧ es = r) ∨ ∃ m e f, m < 3 ∧ a = iN (26 + m) ∧ es = e :: f :: r
/-- a statement keeps to this, whatever was written -/
def LDok (d : LDT) : Prop := (∀ e, e ∈ d.2.2.2.2.1 → PGd e) ∧ match d.1 with
  | 0 => ∃ g, TgK d.2.1 d.2.2.2.2.1 [g]
  | 1 => ∃ e, d.2.2.2.2.1 = [e]
  | 2 => ∃ e f v b, d.2.2.2.2.1 = [e, f] ∧ d.2.2.2.1 = [v] ∧ 0 < v ∧ d.2.2.1 = iN b ∧ b ≤ 5
  | 3 => ∃ v, d.2.2.2.1 = [v] ∧ 0 < v
  | 4 => ∃ e, d.2.2.2.2.1 = [e] ∧ 1 ≤ d.2.2.2.1.length ∧ d.2.2.2.1.length ≤ 4 ∧ ∀ v, v ∈ d.2.2.2.1 → 0 < v
  | 5 => ∃ v, d.2.2.2.1 = [v] ∧ 0 < v
  | 7 => ∃ i e f g, i < 26 ∧ d.2.1 = iN i ∧ d.2.2.2.2.1 = e :: f :: g ∧ g.length ≤ 1
  | 8 => ∃ i, i < 26 ∧ d.2.1 = iN i
  | 9 => TgK d.2.1 d.2.2.2.2.1 []
  | 10 => ∀ c, c ∈ d.2.2.2.2.2 → (c.1 = 0 ∨ c.1 = 1) ∧ ∃ w, c.2.1 = iN w ∧ c.2.2 ≤ 3 ∧ w * 10 ^ (3 - c.2.2) < 1000000000
  | 12 => ∃ m r c, m < 3 ∧ d.2.1 = iN m ∧ d.2.2.2.1 = [iN r, iN c] ∧ 1 ≤ r ∧ r ≤ 6 ∧ 1 ≤ c ∧ c ≤ 6
  | 13 => ∃ i b e, i < 26 ∧ d.2.1 = iN i ∧ b < 3 ∧ d.2.2.1 = iN b ∧ d.2.2.2.2.1 = [e]
  | 14 => ∃ m b, m < 3 ∧ d.2.1 = iN m ∧ d.2.2.1 = iN b ∧ b < 9 ∧ (∀ v, v ∈ d.2.2.2.1 → ∃ k, k < 3 ∧ v = iN k) ∧ d.2.2.2.1.length = (if b < 3 then 0 else if b < 6 then 1 else 2) ∧ (b = 4 → ∃ e, d.2.2.2.2.1 = [e])
  | _ => True
section LDP
variable {T : Nat → Int32} {n : Nat}
theorem eSum_P {on : Bool} {d p op p' : Nat} {os : List SOp} (h : dSum T n on d p op = .ok (p', os)) : PGd os := dSum_ok on d p op p' os h
theorem pMt_I {p p' : Nat} {a : Int32} (h : pMt T n p = .ok (p', a)) : ∃ m, m < 3 ∧ a = iN m := by
  unfold pMt at h
  split at h
  · rename_i hm
    obtain ⟨m, h1, h2⟩ := isM_I hm
    exact ⟨m, h1, by rw [← h2]; exact (congrArg Prod.snd (Except.ok.inj h)).symm⟩
  · cases h
theorem pVar_I {p p' : Nat} {a : Int32} (h : pVar T n p = .ok (p', a)) : ∃ m, m < 26 ∧ a = iN m := by
  unfold pVar at h
  split at h
  · rename_i hm
    obtain ⟨m, h1, h2⟩ := isV_I hm
    exact ⟨m, h1, by rw [← h2]; exact (congrArg Prod.snd (Except.ok.inj h)).symm⟩
  · cases h
theorem pFn_I {p p' : Nat} {a : Int32} (h : pFn T n p = .ok (p', a)) : ∃ m, m < 3 ∧ a = iN m := by
  unfold pFn at h
  split at h
  · rename_i hm
    obtain ⟨m, h1, h2⟩ := isF_I hm
    exact ⟨m, h1, by rw [← h2]; exact (congrArg Prod.snd (Except.ok.inj h)).symm⟩
  · cases h
theorem pExt_I {p p' : Nat} {a : Int32} (h : pExt T n p = .ok (p', a)) : ∃ r, a = iN r ∧ 1 ≤ r ∧ r ≤ 6 := by
  unfold pExt at h
  split at h
  · cases h
  · rename_i h1
    split at h
    · rename_i h2
      have e : chr T n p - 48 = a := congrArg Prod.snd (Except.ok.inj h)
      rw [e] at h1 h2
      obtain ⟨m, g1, g2, g3⟩ := chI (c := a) (lo := 1) (hi := 6) (by
        exact Int32.le_iff_toInt_le.mpr (Int.not_lt.mp (fun q => h1 (Int32.lt_iff_toInt_lt.mpr q)))) h2 (by omega) (by omega)
      exact ⟨m, g3, g1, g2⟩
    · cases h
theorem pLN_I {p p' : Nat} {a : Int32} (h : pLN T n p = .ok (p', a)) : 0 < a := by
  have := pLN_pos (T := T) (n := n) (p := p)
  rw [h] at this
  exact this
theorem pTgt_I {p p' : Nat} {t : Int32 × List (List SOp)} (h : pTgt T n p = .ok (p', t)) : (∀ e, e ∈ t.2 → PGd e) ∧ ∀ r, TgK t.1 (t.2 ++ r) r := by
  unfold pTgt at h
  split at h
  · rename_i hm
    obtain ⟨m, hm3, em⟩ := isM_I hm
    obtain ⟨p1, _, -, h⟩ := bndI h
    obtain ⟨p2, e, h2, h⟩ := bndI h
    obtain ⟨p3, _, -, h⟩ := bndI h
    obtain ⟨p4, f, h4, h⟩ := bndI h
    obtain ⟨p5, _, -, h⟩ := bndI h
    have q : (26 + (chr T n p - 80), [e, f]) = t := congrArg Prod.snd (Except.ok.inj h)
    rw [← q]
    refine ⟨fun x hx => ?_, fun r => Or.inr ⟨m, e, f, hm3, ?_, rfl⟩⟩
    · rcases List.mem_cons.mp hx with hx | hx
      · rw [hx]; exact eSum_P h2
      · rw [List.mem_singleton.mp hx]; exact eSum_P h4
    · show 26 + (chr T n p - 80) = _
      rw [em, show (26 : Int32) = iN 26 from rfl, iN_add]
  · obtain ⟨p1, a, h1, h⟩ := bndI h
    obtain ⟨i, hi, ei⟩ := pVar_I h1
    have q : (a, []) = t := congrArg Prod.snd (Except.ok.inj h)
    rw [← q]
    exact ⟨fun x hx => (by cases hx), fun r => Or.inl ⟨i, hi, ei, rfl⟩⟩
theorem pRel_I {p p' : Nat} {a : Int32} (h : pRel T n p = .ok (p', a)) : ∃ b, a = iN b ∧ b ≤ 5 := by
  have key : ∀ (b : Nat) (q : Nat), b ≤ 5 → (Except.ok (q, iN b) : PR Int32) = .ok (p', a) → ∃ b, a = iN b ∧ b ≤ 5 := fun b q hb h => ⟨b, (congrArg Prod.snd (Except.ok.inj h)).symm, hb⟩
  unfold pRel at h
  repeat' split at h
  · exact key 3 _ (by omega) h
  · exact key 5 _ (by omega) h
  · exact key 1 _ (by omega) h
  · exact key 0 _ (by omega) h
  · exact key 4 _ (by omega) h
  · exact key 2 _ (by omega) h
  · cases h
theorem pJmpL_I : ∀ (k p : Nat) (acc : List Int32) (p' : Nat) (vs : List Int32), (∀ v, v ∈ acc → 0 < v) → pJmpL T n k p acc = .ok (p', vs) → (∀ v, v ∈ vs → 0 < v) ∧ acc.length ≤ vs.length ∧ vs.length ≤ acc.length + k
  | 0, p, acc, p', vs, ha, h => by
    rw [← show acc = vs from congrArg Prod.snd (Except.ok.inj h)]; exact ⟨ha, Nat.le_refl _, Nat.le_refl _⟩
  | k + 1, p, acc, p', vs, ha, h => by
    unfold pJmpL at h
    split at h
    · obtain ⟨p1, v, h1, h⟩ := bndI h
      obtain ⟨g1, g2, g3⟩ := pJmpL_I k p1 (acc ++ [v]) p' vs (fun w hw => by
        rcases List.mem_append.mp hw with hw | hw
        · exact ha w hw
        · rw [List.mem_singleton.mp hw]; exact pLN_I h1) h
      simp only [List.length_append, List.length_singleton] at g2 g3
      exact ⟨g1, by omega, by omega⟩
    · rw [← show acc = vs from congrArg Prod.snd (Except.ok.inj h)]; exact ⟨ha, Nat.le_refl _, by omega⟩
def CoK (c : Int32 × Int32 × Nat) : Prop := (c.1 = 0 ∨ c.1 = 1) ∧ ∃ w, c.2.1 = iN w ∧ c.2.2 ≤ 3 ∧ w * 10 ^ (3 - c.2.2) < 1000000000
theorem pCon_I {p p' : Nat} {c : Int32 × Int32 × Nat} (h : pCon T n p = .ok (p', c)) : CoK c := by
  unfold pCon at h
  split at h
  · obtain ⟨p1, v, h1, h⟩ := bndI h
    rw [← show (1, v.1, v.2) = c from congrArg Prod.snd (Except.ok.inj h)]
    exact ⟨Or.inr rfl, pNum_ok h1⟩
  · obtain ⟨p1, v, h1, h⟩ := bndI h
    rw [← show (0, v.1, v.2) = c from congrArg Prod.snd (Except.ok.inj h)]
    exact ⟨Or.inl rfl, pNum_ok h1⟩
theorem pConL_I : ∀ (k p : Nat) (acc : List (Int32 × Int32 × Nat)) (p' : Nat) (vs : List (Int32 × Int32 × Nat)), (∀ v, v ∈ acc → CoK v) → pConL T n k p acc = .ok (p', vs) → ∀ v, v ∈ vs → CoK v
  | 0, p, acc, p', vs, ha, h => by
    rw [← show acc = vs from congrArg Prod.snd (Except.ok.inj h)]; exact ha
  | k + 1, p, acc, p', vs, ha, h => by
    unfold pConL at h
    split at h
    · obtain ⟨p1, v, h1, h⟩ := bndI h
      exact pConL_I k p1 (acc ++ [v]) p' vs (fun w hw => by
        rcases List.mem_append.mp hw with hw | hw
        · exact ha w hw
        · rw [List.mem_singleton.mp hw]; exact pCon_I h1) h
    · rw [← show acc = vs from congrArg Prod.snd (Except.ok.inj h)]; exact ha
theorem pGro_I {p p' : Nat} {g : List (List SOp)} (h : pGro T n p = .ok (p', g)) : g.length ≤ 1 ∧ ∀ e, e ∈ g → PGd e := by
  unfold pGro at h
  split at h
  · rw [← show [] = g from congrArg Prod.snd (Except.ok.inj h)]; exact ⟨Nat.zero_le _, fun e he => (by cases he)⟩
  · obtain ⟨p1, _, -, h⟩ := bndI h
    obtain ⟨p2, e, h2, h⟩ := bndI h
    rw [← show [e] = g from congrArg Prod.snd (Except.ok.inj h)]
    exact ⟨Nat.le_refl 1, fun x hx => by rw [List.mem_singleton.mp hx]; exact eSum_P h2⟩
def SrK (r : Int32 × List Int32 × List (List SOp)) : Prop := (∀ e, e ∈ r.2.2 → PGd e) ∧ ∃ b, r.1 = iN b ∧ b < 9 ∧ (∀ v, v ∈ r.2.1 → ∃ k, k < 3 ∧ v = iN k) ∧ r.2.1.length = (if b < 3 then 0 else if b < 6 then 1 else 2) ∧ (b = 4 → ∃ e, r.2.2 = [e])
theorem SrK_mk {b : Nat} {ms : List Int32} {es : List (List SOp)} (h1 : ∀ e, e ∈ es → PGd e) (h2 : b < 9) (h3 : ∀ v, v ∈ ms → ∃ k, k < 3 ∧ v = iN k) (h4 : ms.length = (if b < 3 then 0 else if b < 6 then 1 else 2)) (h5 : b = 4 → ∃ e, es = [e]) : SrK (iN b, ms, es) := ⟨h1, b, rfl, h2, h3, h4, h5⟩
theorem nomem {α : Type} {P : α → Prop} : ∀ v, v ∈ ([] : List α) → P v := fun v hv => (by cases hv)
theorem mem1 {α : Type} {P : α → Prop} {a : α} (h : P a) : ∀ v, v ∈ [a] → P v := fun v hv => by rw [List.mem_singleton.mp hv]; exact h
theorem mem2 {α : Type} {P : α → Prop} {a b : α} (h : P a) (g : P b) : ∀ v, v ∈ [a, b] → P v := fun v hv => by
  rcases List.mem_cons.mp hv with hv | hv
  · rw [hv]; exact h
  · exact mem1 g v hv
theorem pSrc_I {p p' : Nat} {r : Int32 × List Int32 × List (List SOp)} (h : pSrc T n p = .ok (p', r)) : SrK r := by
  unfold pSrc at h
  split at h
  · obtain ⟨p1, _, -, h⟩ := bndI h
    obtain ⟨p2, e, h2, h⟩ := bndI h
    obtain ⟨p3, _, -, h⟩ := bndI h
    obtain ⟨p4, m, h4, h⟩ := bndI h
    rw [← show (iN 4, [m], [e]) = r from congrArg Prod.snd (Except.ok.inj h)]
    exact SrK_mk (mem1 (eSum_P h2)) (by omega) (mem1 (pMt_I h4)) rfl (fun _ => ⟨e, rfl⟩)
  · split at h
    · obtain ⟨p1, _, -, h⟩ := bndI h
      rw [← show (iN 1, [], []) = r from congrArg Prod.snd (Except.ok.inj h)]
      exact SrK_mk nomem (by omega) nomem rfl (fun q => by omega)
    · split at h
      · obtain ⟨p1, _, -, h⟩ := bndI h
        rw [← show (iN 2, [], []) = r from congrArg Prod.snd (Except.ok.inj h)]
        exact SrK_mk nomem (by omega) nomem rfl (fun q => by omega)
      · split at h
        · obtain ⟨p1, _, -, h⟩ := bndI h
          obtain ⟨p2, m, h2, h⟩ := bndI h
          obtain ⟨p3, _, -, h⟩ := bndI h
          rw [← show (iN 3, [m], []) = r from congrArg Prod.snd (Except.ok.inj h)]
          exact SrK_mk nomem (by omega) (mem1 (pMt_I h2)) rfl (fun q => by omega)
        · split at h
          · obtain ⟨p1, _, -, h⟩ := bndI h
            rw [← show (iN 0, [], []) = r from congrArg Prod.snd (Except.ok.inj h)]
            exact SrK_mk nomem (by omega) nomem rfl (fun q => by omega)
          · obtain ⟨p1, m, h1, h⟩ := bndI h
            split at h
            · obtain ⟨p2, m2, h2, h⟩ := bndI h
              rw [← show (iN 8, [m, m2], []) = r from congrArg Prod.snd (Except.ok.inj h)]
              exact SrK_mk nomem (by omega) (mem2 (pMt_I h1) (pMt_I h2)) rfl (fun q => by omega)
            · split at h
              · obtain ⟨p2, m2, h2, h⟩ := bndI h
                rw [← show (iN 6, [m, m2], []) = r from congrArg Prod.snd (Except.ok.inj h)]
                exact SrK_mk nomem (by omega) (mem2 (pMt_I h1) (pMt_I h2)) rfl (fun q => by omega)
              · split at h
                · obtain ⟨p2, m2, h2, h⟩ := bndI h
                  rw [← show (iN 7, [m, m2], []) = r from congrArg Prod.snd (Except.ok.inj h)]
                  exact SrK_mk nomem (by omega) (mem2 (pMt_I h1) (pMt_I h2)) rfl (fun q => by omega)
                · rw [← show (iN 5, [m], []) = r from congrArg Prod.snd (Except.ok.inj h)]
                  exact SrK_mk nomem (by omega) (mem1 (pMt_I h1)) rfl (fun q => by omega)
theorem ldE {k : Nat} {a b : Int32} {ns : List Int32} {es : List (List SOp)} {cs : List (Int32 × Int32 × Nat)} {p p' : Nat} {d : LDT} (h : (Except.ok (p, k, a, b, ns, es, cs) : PR LDT) = .ok (p', d)) : (k, a, b, ns, es, cs) = d := congrArg Prod.snd (Except.ok.inj h)
theorem pRest_I {k p p' : Nat} {d : LDT} (hk : k < 17) (h : pRest T n k p = .ok (p', d)) : LDok d ∧ d.1 = k := by
  have e : k = 0 ∨ k = 1 ∨ k = 2 ∨ k = 3 ∨ k = 4 ∨ k = 5 ∨ k = 6 ∨ k = 7 ∨ k = 8 ∨ k = 9 ∨ k = 10 ∨ k = 11 ∨ k = 12 ∨ k = 13 ∨ k = 14 ∨ k = 15 ∨ k = 16 := by omega
  rcases e with e | e | e | e | e | e | e | e | e | e | e | e | e | e | e | e | e <;> subst e
  · have h : bnd (pTgt T n p) (fun p1 t => bnd (pCh T n 61 p1) fun p2 _ => bnd (dSum T n false 8 p2 0) fun p3 e => .ok (p3, 0, t.1, 0, [], t.2 ++ [e], [])) = .ok (p', d) := h
    obtain ⟨p1, t, h1, h⟩ := bndI h
    obtain ⟨p2, _, -, h⟩ := bndI h
    obtain ⟨p3, e, h3, h⟩ := bndI h
    rw [← ldE h]
    obtain ⟨g1, g2⟩ := pTgt_I h1
    refine ⟨⟨fun x hx => ?_, e, g2 [e]⟩, rfl⟩
    rcases List.mem_append.mp hx with hx | hx
    · exact g1 x hx
    · rw [List.mem_singleton.mp hx]; exact eSum_P h3
  · obtain ⟨p1, e, h1, h⟩ := bndI (show bnd _ _ = _ from h)
    rw [← ldE h]
    exact ⟨⟨mem1 (eSum_P h1), e, rfl⟩, rfl⟩
  · obtain ⟨p1, e, h1, h⟩ := bndI (show bnd _ _ = _ from h)
    obtain ⟨p2, r, h2, h⟩ := bndI h
    obtain ⟨p3, f, h3, h⟩ := bndI h
    obtain ⟨p4, _, -, h⟩ := bndI h
    obtain ⟨p5, v, h5, h⟩ := bndI h
    rw [← ldE h]
    obtain ⟨b, hb, hb5⟩ := pRel_I h2
    exact ⟨⟨mem2 (eSum_P h1) (eSum_P h3), e, f, v, b, rfl, rfl, pLN_I h5, hb, hb5⟩, rfl⟩
  · obtain ⟨p1, v, h1, h⟩ := bndI (show bnd _ _ = _ from h)
    rw [← ldE h]
    exact ⟨⟨nomem, v, rfl, pLN_I h1⟩, rfl⟩
  · obtain ⟨p1, e, h1, h⟩ := bndI (show bnd _ _ = _ from h)
    obtain ⟨p2, _, -, h⟩ := bndI h
    obtain ⟨p3, vs, h3, h⟩ := bndI h
    rw [← ldE h]
    unfold pJmps at h3
    obtain ⟨p4, v, h4, h3⟩ := bndI h3
    obtain ⟨g1, g2, g3⟩ := pJmpL_I 3 p4 [v] p3 vs (mem1 (pLN_I h4)) h3
    exact ⟨⟨mem1 (eSum_P h1), e, rfl, g2, g3, g1⟩, rfl⟩
  · obtain ⟨p1, v, h1, h⟩ := bndI (show bnd _ _ = _ from h)
    rw [← ldE h]
    exact ⟨⟨nomem, v, rfl, pLN_I h1⟩, rfl⟩
  · rw [← ldE h]; exact ⟨⟨nomem, trivial⟩, rfl⟩
  · obtain ⟨p1, a, h1, h⟩ := bndI (show bnd _ _ = _ from h)
    obtain ⟨p2, _, -, h⟩ := bndI h
    obtain ⟨p3, e, h3, h⟩ := bndI h
    obtain ⟨p4, _, -, h⟩ := bndI h
    obtain ⟨p5, f, h5, h⟩ := bndI h
    obtain ⟨p6, g, h6, h⟩ := bndI h
    rw [← ldE h]
    obtain ⟨i, hi, ei⟩ := pVar_I h1
    obtain ⟨g1, g2⟩ := pGro_I h6
    refine ⟨⟨fun x hx => ?_, i, e, f, g, hi, ei, rfl, g1⟩, rfl⟩
    rcases List.mem_append.mp hx with hx | hx
    · exact mem2 (eSum_P h3) (eSum_P h5) x hx
    · exact g2 x hx
  · obtain ⟨p1, a, h1, h⟩ := bndI (show bnd _ _ = _ from h)
    rw [← ldE h]
    obtain ⟨i, hi, ei⟩ := pVar_I h1
    exact ⟨⟨nomem, i, hi, ei⟩, rfl⟩
  · obtain ⟨p1, t, h1, h⟩ := bndI (show bnd _ _ = _ from h)
    rw [← ldE h]
    obtain ⟨g1, g2⟩ := pTgt_I h1
    exact ⟨⟨g1, by have := g2 []; rw [List.append_nil] at this; exact this⟩, rfl⟩
  · obtain ⟨p1, cs, h1, h⟩ := bndI (show bnd _ _ = _ from h)
    rw [← ldE h]
    unfold pCons at h1
    obtain ⟨p4, v, h4, h1⟩ := bndI h1
    exact ⟨⟨nomem, pConL_I 5 p4 [v] p1 cs (mem1 (pCon_I h4)) h1⟩, rfl⟩
  · rw [← ldE h]; exact ⟨⟨nomem, trivial⟩, rfl⟩
  · obtain ⟨p1, a, h1, h⟩ := bndI (show bnd _ _ = _ from h)
    obtain ⟨p2, _, -, h⟩ := bndI h
    obtain ⟨p3, r, h3, h⟩ := bndI h
    obtain ⟨p4, _, -, h⟩ := bndI h
    obtain ⟨p5, c, h5, h⟩ := bndI h
    obtain ⟨p6, _, -, h⟩ := bndI h
    rw [← ldE h]
    obtain ⟨m, hm, em⟩ := pMt_I h1
    obtain ⟨r', er, r1, r6⟩ := pExt_I h3
    obtain ⟨c', ec, c1, c6⟩ := pExt_I h5
    exact ⟨⟨nomem, m, r', c', hm, em, by rw [er, ec], r1, r6, c1, c6⟩, rfl⟩
  · obtain ⟨p1, b, h1, h⟩ := bndI (show bnd _ _ = _ from h)
    obtain ⟨p2, _, -, h⟩ := bndI h
    obtain ⟨p3, a, h3, h⟩ := bndI h
    obtain ⟨p4, _, -, h⟩ := bndI h
    obtain ⟨p5, _, -, h⟩ := bndI h
    obtain ⟨p6, e, h6, h⟩ := bndI h
    rw [← ldE h]
    obtain ⟨f, hf, ef⟩ := pFn_I h1
    obtain ⟨i, hi, ei⟩ := pVar_I h3
    exact ⟨⟨mem1 (eSum_P h6), i, f, e, hi, ei, hf, ef, rfl⟩, rfl⟩
  · obtain ⟨p1, a, h1, h⟩ := bndI (show bnd _ _ = _ from h)
    obtain ⟨p2, _, -, h⟩ := bndI h
    obtain ⟨p3, r, h3, h⟩ := bndI h
    rw [← ldE h]
    obtain ⟨m, hm, em⟩ := pMt_I h1
    obtain ⟨g1, b, g2, g3, g4, g5, g6⟩ := pSrc_I h3
    exact ⟨⟨g1, m, b, hm, em, g2, g3, g4, g5, g6⟩, rfl⟩
  · rw [← ldE h]; exact ⟨⟨nomem, trivial⟩, rfl⟩
  · rw [← ldE h]; exact ⟨⟨nomem, trivial⟩, rfl⟩
/-- every line that the parser takes keeps to it -/
theorem pLine_I {v : Int32} {d : LDT} {p : Nat} (h : pLine T n = .ok (p, (v, some d))) : 0 < v ∧ LDok d ∧ d.1 < 17 := by
  unfold pLine at h
  obtain ⟨p1, w, h1, h⟩ := bndI h
  split at h
  · cases h
  · obtain ⟨p2, k, h2, h⟩ := bndI h
    obtain ⟨p3, d', h3, h⟩ := bndI h
    split at h
    · have e : (w, some d') = (v, some d) := congrArg Prod.snd (Except.ok.inj h)
      have e1 : w = v := congrArg Prod.fst e
      have e2 : d' = d := Option.some.inj (congrArg Prod.snd e)
      have hk : k < 17 := by
        have key : ∀ (ws : List (List Int32)) (j m : Nat) (q r : Nat), pKwL T n p1 ws j m = .ok (q, r) → r < j + ws.length := by
          intro ws
          induction ws with
          | nil => intro j m q r h; cases h
          | cons x ws ih =>
            intro j m q r h
            unfold pKwL at h
            split at h
            · have : j = r := congrArg Prod.snd (Except.ok.inj h)
              simp only [List.length_cons]; omega
            · have := ih (j + 1) _ q r h
              simp only [List.length_cons]; omega
        have := key kwW 0 0 p2 k h2
        have h17 : kwW.length = 17 := rfl
        omega
      obtain ⟨g1, g2⟩ := pRest_I hk h3
      rw [← e1, ← e2]
      exact ⟨pLN_I h1, g1, by omega⟩
    · cases h
end LDP
