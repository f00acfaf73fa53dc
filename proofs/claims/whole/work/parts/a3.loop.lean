/-! the law's loop -/
def mkX (X : CXT) (c s : Nat) : CXT := (xp X, xl X, xe X, xR X, xs X, xm X, xa X, xb X, xmeth X, xc X, c, s, xQ X, xnL X)
def lvT (E : EVT) (b : Nat) (i : Int32) : List (Nat × Value) := [(0, .ref b), (1, cr E 1), (2, cr E 250), (3, cr E 28), (4, cr E 29), (5, .int i)]
theorem LawC_0 {X : CXT} {E : EVT} {n : Nat} (h : LawC X E n) : LawC X E 0 := ⟨h.1, h.2.1, h.2.2.1, by have := h.2.2.2.1; omega, by have := h.2.2.2.2; omega⟩
theorem g_loop {X0 : CXT} {E : EVT} {b L : Nat} {zs : Nat → Int32} (hN : xnL X0 = 9) (hS : ScX X0 E b L zs) (hL : L ≤ 2048) (fin : ∀ c s A1 lv, LawC (mkX X0 c s) E 0 → G (mkX X0 c s) E A1 569 lv []) : ∀ (n a c s : Nat) (A : Mem), LawC (mkX X0 c s) E n → L < a + 4 * n + 4 → a ≤ L → Inv A → G (mkX X0 c s) E A 28 (lvT E b (iN a)) [] := by
  intro n
  induction n with
  | zero =>
    intro a c s A hC hn ha hI
    unfold lvT
    have hX : Gd (mkX X0 c s) E "BasicMachineLaw" code := hC.1
    have hS' : ScX (mkX X0 c s) E b L zs := hS
    refine g_iload (pc := 28) hX d_La_law_28 5 rfl ?_
    refine g_aloadS (pc := 30) hX d_La_law_30 rfl 0 rfl ?_
    refine g_slen (pc := 31) hX hS' d_La_law_31 ?_
    refine g_iconst (pc := 32) (v := 4) hX d_La_law_32 (by decide) ?_
    refine g_isub (pc := 33) hX d_La_law_33 ?_
    refine g_icmp_gt (pc := 34) (tgt := 569) hX d_La_law_34 (by decide) (fun _ => ?_) (fun q => absurd ?_ q)
    · exact fin c s A _ hC
    · apply Int32.lt_iff_toInt_lt.mpr
      rw [Int32.toInt_sub, iN_toInt (by omega), show (Int32.ofNat L).toInt = (L : Int) from iN_toInt (by omega), show (4 : Int32).toInt = 4 from rfl, Int.bmod_eq_of_le (by omega) (by omega)]
      omega
  | succ n ih =>
    intro a c s A hC hn ha hI
    unfold lvT
    have hX : Gd (mkX X0 c s) E "BasicMachineLaw" code := hC.1
    have hS' : ScX (mkX X0 c s) E b L zs := hS
    refine g_iload (pc := 28) hX d_La_law_28 5 rfl ?_
    refine g_aloadS (pc := 30) hX d_La_law_30 rfl 0 rfl ?_
    refine g_slen (pc := 31) hX hS' d_La_law_31 ?_
    refine g_iconst (pc := 32) (v := 4) hX d_La_law_32 (by decide) ?_
    refine g_isub (pc := 33) hX d_La_law_33 ?_
    refine g_icmp_gt (pc := 34) (tgt := 569) hX d_La_law_34 (by decide) (fun _ => ?_) (fun q => ?_)
    · exact fin c s A _ (LawC_0 hC)
    · have q4 : a + 4 ≤ L := by
        have q' := q
        rw [Int32.lt_iff_toInt_lt, Int32.toInt_sub, iN_toInt (by omega), show (Int32.ofNat L).toInt = (L : Int) from iN_toInt (by omega), show (4 : Int32).toInt = 4 from rfl, Int.bmod_eq_of_le (by omega) (by omega)] at q'
        omega
      have w0 : vp_in (iN a) L := iN_in (by omega) (by omega)
      have w1 : vp_in (iN a + 1) L := by rw [show (1 : Int32) = iN 1 from rfl, iN_add]; exact iN_in (by omega) (by omega)
      have w2 : vp_in (iN a + 2) L := by rw [show (2 : Int32) = iN 2 from rfl, iN_add]; exact iN_in (by omega) (by omega)
      have w3 : vp_in (iN a + 3) L := by rw [show (3 : Int32) = iN 3 from rfl, iN_add]; exact iN_in (by omega) (by omega)
      refine g_turn (X := mkX X0 c s) (K := Inv) hC hN hS' (turn_ok hI w0 w1 w2 w3) (fun X1 A1 hU hI1 => ?_)
      rw [show iN a + 4 = iN (a + 4) from iN_add a 4]
      rcases hU with e | e
      · rw [e]; exact ih (a + 4) c s A1 (LawC_dn hC) (by omega) (by omega) hI1
      · rw [e]; exact ih (a + 4) (c + 1) (s + 6) A1 (LawC_up hC) (by omega) (by omega) hI1
