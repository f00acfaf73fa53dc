def PLd (P : PT) : Prop := ∀ v d, (v, d) ∈ P → LDok d ∧ d.1 < 17
theorem PLd_nil : PLd [] := fun v d h => (by cases h)
theorem PLd_rem {P P' : PT} {v : Int32} (h : PLd P) (e : remS P v = some P') : PLd P' := by
  unfold remS at e
  split at e
  · rw [← Option.some.inj e]
    intro w d hm
    rcases List.mem_append.mp hm with hm | hm
    · exact h w d (List.mem_of_mem_take hm)
    · exact h w d (List.mem_of_mem_drop hm)
  · cases e
theorem PLd_put {P P' : PT} {v : Int32} {d : LDT} (h : PLd P) (hd : LDok d ∧ d.1 < 17) (e : putS P v d = some P') : PLd P' := by
  unfold putS at e
  split at e
  · rw [← Option.some.inj e]
    intro w d' hm
    rcases List.mem_or_eq_of_mem_set hm with hm | hm
    · exact h w d' hm
    · rw [show d' = d from congrArg Prod.snd hm]; exact hd
  · split at e
    · rw [← Option.some.inj e]
      intro w d' hm
      rcases List.mem_append.mp hm with hm | hm
      · exact h w d' (List.mem_of_mem_take hm)
      · rcases List.mem_cons.mp hm with hm | hm
        · rw [show d' = d from congrArg Prod.snd hm]; exact hd
        · exact h w d' (List.mem_of_mem_drop hm)
    · cases e
section EV8
variable {A0 A : Mem} {va : Nat → UInt64} {mr mc : Nat → Nat}
/-- evaluating behind a fault -/
theorem n_evalA (hW : WC A0) {fu ft L k : Nat} {v p3 : Int32} {dd : LDT} {os : List SOp} {s : List UInt64} {K : UInt64 → Mem → Prop} (h : EvS A0 va s ft A) (h0 : ft ≠ 0) (hC : CLv A0 L v dd) (hL : 100 ≤ L) (hL2 : L < 125) (he : dd.2.2.2.2.1[k]? = some os)
    (kk : ∀ v s' A', okd v → EvS A0 va s' ft A' → K v A') : wp_Ca_evaluate (fu + 1) 8 L (iN k) p3 A K := by
  show wp_Ca_evaluateB (wp_Ca_evaluate fu) 8 L (iN k) p3 A K
  have hC' := CLv_Ev hL h hC
  have hW' := WC_Ev hW h
  have ek : kd (L + 60) = 51 := by
    unfold kd
    rw [if_neg (by omega), if_neg (by omega), if_neg (by omega), if_neg (by omega), if_neg (by omega), if_neg (by omega), if_pos (by omega)]
  unfold wp_Ca_evaluateB
  refine ⟨kdL hL hL2, n_endOf hL hL2 hW' hC' he ?_⟩
  rw [(hW'.2.2.2.2.2 L hL hL2).2.1]
  exact ⟨ek, n_startOf hL hL2 hW' hC' he ⟨1, n_evA hW h0 h kk⟩⟩
/-- the class's memory between two statements' parts: behind a fault the stack is of no matter -/
def CvS (A0 : Mem) (va : Nat → UInt64) (ft : Nat) (A : Mem) : Prop := ∃ s, EvS A0 va s ft A ∧ (ft = 0 → s = [])
/-- an expression's value, or a fault, or a fault that was there -/
def oKC (A0 : Mem) (va : Nat → UInt64) (ft : Nat) (e : EV) (K : UInt64 → Mem → Prop) : Prop :=
  (ft = 0 → ∀ v, e = .ok v → okd v → ∀ A', CvS A0 va 0 A' → K v A') ∧ (ft = 0 → ∀ f, e = .error f → f ≠ 0 → ∀ v A', okd v → CvS A0 va f A' → K v A') ∧ (ft ≠ 0 → ∀ v A', okd v → CvS A0 va ft A' → K v A')
theorem n_evalC {fb : Nat → Option (Nat × List SOp)} (hW : WC A0) (hM : MxA A0 mr mc) (hF : FbA A0 fb) (h3 : ∀ f, 3 ≤ f → fb f = none) {ft L k : Nat} {v : Int32} {dd : LDT} {os : List SOp} {K : UInt64 → Mem → Prop} (h : CvS A0 va ft A) (hC : CLv A0 L v dd) (hL : 100 ≤ L) (hL2 : L < 125) (he : dd.2.2.2.2.1[k]? = some os) (hG : GdE os)
    (kk : oKC A0 va ft (evL fb (elA A0 mr mc) 3 va os) K) : wp_Ca_evaluate 5 8 L (iN k) 0 A K := by
  obtain ⟨s, h, hs⟩ := h
  by_cases h0 : ft = 0
  · have hs := hs h0
    subst hs
    subst h0
    exact n_eval hW hM hF h3 3 (by omega) 5 (by omega) A va [] L k v dd os K h hC hL hL2 he hG (by simp) ⟨fun w hw A' ho h' => kk.1 rfl w hw ho A' ⟨[], h', fun _ => rfl⟩, fun f hf f0 w s' A' ho h' => kk.2.1 rfl f hf f0 w A' ho ⟨s', h', fun q => absurd q f0⟩⟩
  · exact n_evalA hW h h0 hC hL hL2 he (fun w s' A' ho h' => kk.2.2 h0 w A' ho ⟨s', h', fun q => absurd q h0⟩)
theorem n_fineC {ft : Nat} {K : Bool → Mem → Prop} (h : CvS A0 va ft A) (k1 : ft = 0 → K true A) (k2 : ft ≠ 0 → K false A) : wp_Ca_isFine 8 A K := by
  obtain ⟨s, h, -⟩ := h
  exact n_fine h k1 k2
/-- a fault: the first one stays -/
theorem n_failC {ft f : Nat} {K : Mem → Prop} (h : CvS A0 va ft A) (hf : f < 7) (f0 : f ≠ 0) (k : ∀ A', CvS A0 va (if ft = 0 then f else ft) A' → K A') : wp_Ca_fail 8 (1200 + f) A K := by
  obtain ⟨s, h, hs⟩ := h
  by_cases h0 : ft = 0
  · subst h0
    rw [if_pos rfl] at k
    exact n_fail h hf (fun A' h' => k A' ⟨s, h', fun q => absurd q f0⟩)
  · rw [if_neg h0] at k
    exact n_failA h h0 (fun A' h' => k A' ⟨s, h', fun q => absurd q h0⟩)
theorem GdE_of {L : Nat} {v : Int32} {dd : LDT} {k : Nat} {os : List SOp} (hC : CLv A0 L v dd) (he : dd.2.2.2.2.1[k]? = some os) (hP : PGd os) : GdE os := by
  refine ⟨fun x hx => (hP.1 x hx).1, ?_, hP.2.1 0⟩
  have h1 := tk_len _ k os he
  have h2 := tk_le dd.2.2.2.2.1 (k + 1)
  have h4 : (cOs dd.2.2.2.2.1).length = dd.2.2.2.2.1.flatten.length := List.length_map _
  obtain ⟨_, _, _, _, _, h12, _⟩ := hC
  have := h12.2.1
  omega
end EV8
