/-! the law's beginning -/
section CN4
variable {X : CXT} {E : EVT} {own : String} {cc : ByteArray} {n0 cl sl : Nat} {A : Mem} {pc : Nat} {lv : List (Nat × Value)} {rest : List Value}
theorem n_astore_n (hX : Gc X E own cc n0) {k : Fin 4} {i x : Nat} {lv0 : List (Nat × Value)} (hx : x ≠ 0) (hd : decode cc pc = .ok (.astore_n k, 1)) (hi : (k : Nat) = i) (hn : i < xnL X) (hm : ∀ q ∈ (i, cr E x) :: lv0, q ∈ (i, cr E x) :: lv.filter (fun q => !(q.1 == i) && !(q.1 + 1 == i && q.2.category == 2))) (kk : GN X E n0 cl sl A (pc + 1) ((i, cr E x) :: lv0) rest) : GN X E n0 cl sl A pc lv (cr E x :: rest) := by
  intro H locs ls h1 h2 h3
  rw [cr_pos hx] at kk hm ⊢
  exact lv_astore_n hX.1.1 hX.1.2.1 hd hi h3 hn rfl (fun ls9 h9 => kk H locs ls9 h1 h2 (g_lvm h9 hm))
theorem n_astore (hX : Gc X E own cc n0) {i x : Nat} {lv0 : List (Nat × Value)} (hx : x ≠ 0) (hd : decode cc pc = .ok (.astore i, 2)) (hn : i < xnL X) (hm : ∀ q ∈ (i, cr E x) :: lv0, q ∈ (i, cr E x) :: lv.filter (fun q => !(q.1 == i) && !(q.1 + 1 == i && q.2.category == 2))) (kk : GN X E n0 cl sl A (pc + 2) ((i, cr E x) :: lv0) rest) : GN X E n0 cl sl A pc lv (cr E x :: rest) := by
  intro H locs ls h1 h2 h3
  rw [cr_pos hx] at kk hm ⊢
  exact lv_astore hX.1.1 hX.1.2.1 hd h3 hn rfl (fun ls9 h9 => kk H locs ls9 h1 h2 (g_lvm h9 hm))
theorem n_istore (hX : Gc X E own cc n0) {i : Nat} {x : Int32} {lv0 : List (Nat × Value)} (hd : decode cc pc = .ok (.istore i, 2)) (hn : i < xnL X) (hm : ∀ q ∈ (i, .int x) :: lv0, q ∈ (i, .int x) :: lv.filter (fun q => !(q.1 == i) && !(q.1 + 1 == i && q.2.category == 2))) (kk : GN X E n0 cl sl A (pc + 2) ((i, .int x) :: lv0) rest) : GN X E n0 cl sl A pc lv (.int x :: rest) := fun H locs ls h1 h2 h3 => lv_istore hX.1.1 hX.1.2.1 hd h3 hn rfl (fun ls9 h9 => kk H locs ls9 h1 h2 (g_lvm h9 hm))
end CN4
theorem nw_La_8 : Cond.classLink "BasicMachineLaw" 8 (fC 1) ∈ gtb ∧ Cond.instantiable (fC 1) (nf 1) ∈ gtb ∧ Cond.initialized (fC 1) ∈ gtb := ⟨in_tbl 30 (by decide +kernel), in_tbl 31 (by decide +kernel), in_tbl 1 (by decide +kernel)⟩
theorem nw_La_44 : Cond.classLink "BasicMachineLaw" 44 (fC 9) ∈ gtb ∧ Cond.instantiable (fC 9) (nf 9) ∈ gtb ∧ Cond.initialized (fC 9) ∈ gtb := ⟨in_tbl 1159 (by decide +kernel), in_tbl 1160 (by decide +kernel), in_tbl 13 (by decide +kernel)⟩
theorem df_1 : ∀ j, j < nf 1 → defaultValue (fTy 1 j) = dvl (fts 1 j) := by decide +kernel
theorem df_9 : ∀ j, j < nf 9 → defaultValue (fTy 9 j) = dvl (fts 9 j) := by decide +kernel
theorem lkl_La_43 : Cond.methodLink "BasicMachineLaw" 43 y_BM_init ∈ gtb := in_tbl 32 (by decide +kernel)
theorem lkl_La_46 : Cond.methodLink "BasicMachineLaw" 46 y_Mo_init ∈ gtb := in_tbl 1161 (by decide +kernel)
theorem aw_long : Cond.arrayClass (newarray.typeOf .long) ∈ gtb := in_tbl 1656 (by decide +kernel)
set_option maxHeartbeats 1000000 in
theorem g_begin {X : CXT} {E : EVT} {b : Nat} (hX : Gc X E "BasicMachineLaw" code 0) (hR : 2000 ≤ (xR X).frames ∧ 80000 ≤ (xR X).locals) (hQ : 180 ≤ (xR X).cells ∧ 9615 ≤ (xR X).slots) (hN : xnL X = 9) (kk : G (mkX X 180 9615) E Ms 28 (lvT E b (iN 0)) []) : GN X E 0 0 0 Mz 0 [(0, .ref b)] [] := by
  refine n_new (pc := 0) (k := 1) hX cf1 nw_La_8 (by decide) (by decide) df_1 ⟨Nat.le_trans (by decide) hQ.1, Nat.le_trans (by decide) hQ.2⟩ d_La_law_0 ?_
  refine n_dup (pc := 3) hX d_La_law_3 (cr_cat _ _) ?_
  refine n_init (pc := 4) hX hR lkl_La_43 mc_BM (ci_BM _) rfl (by decide) rfl rfl (by decide) ⟨Nat.le_trans (by decide) hQ.1, Nat.le_trans (by decide) hQ.2⟩ (alo_le (by decide)) (cat_sum _ (Nat.le_of_ble_eq_true rfl)) d_La_law_4 ?_
  refine n_astore_n (pc := 7) (i := 1) hX (by decide) d_La_law_7 rfl (by rw [hN]; decide) (g_st1b (ks := [0]) rfl rfl rfl rfl) ?_
  refine n_new (pc := 8) (k := 250) hX cf9 nw_La_44 (by decide) (by decide) df_9 ⟨Nat.le_trans (by decide) hQ.1, Nat.le_trans (by decide) hQ.2⟩ d_La_law_8 ?_
  refine n_dup (pc := 11) hX d_La_law_11 (cr_cat _ _) ?_
  refine n_init (pc := 12) hX hR lkl_La_46 mc_Mo (ci_Mo _) rfl (by decide) rfl rfl (by decide) ⟨Nat.le_trans (by decide) hQ.1, Nat.le_trans (by decide) hQ.2⟩ (alo_le (by decide)) (cat_sum _ (Nat.le_of_ble_eq_true rfl)) d_La_law_12 ?_
  refine n_astore_n (pc := 15) (i := 2) hX (by decide) d_La_law_15 rfl (by rw [hN]; decide) (g_st1b (ks := [0, 1]) rfl (cr_cat _ _) rfl rfl) ?_
  refine n_iconst (pc := 16) (v := 1) hX d_La_law_16 (by decide) ?_
  refine n_newarr (pc := 17) (kk0 := 54) (k := 28) (N := 1) hX (by decide) rfl aw_long (by decide) (by decide) (by decide) (by decide) (by decide) (by decide) ⟨Nat.le_trans (by decide) hQ.1, Nat.le_trans (by decide) hQ.2⟩ d_La_law_17 ?_
  refine n_astore_n (pc := 19) (i := 3) hX (by decide) d_La_law_19 rfl (by rw [hN]; decide) (g_st1b (ks := [0, 1, 2]) rfl (cr_cat _ _) rfl rfl) ?_
  refine n_iconst (pc := 20) (v := 1) hX d_La_law_20 (by decide) ?_
  refine n_newarr (pc := 21) (kk0 := 53) (k := 29) (N := 1) hX (by decide) rfl aw_double (by decide) (by decide) (by decide) (by decide) (by decide) (by decide) ⟨Nat.le_trans (by decide) hQ.1, Nat.le_trans (by decide) hQ.2⟩ d_La_law_21 ?_
  refine n_astore (pc := 23) (i := 4) hX (by decide) d_La_law_23 (by rw [hN]; decide) (g_st1b (ks := [0, 1, 2, 3]) rfl (cr_cat _ _) rfl rfl) ?_
  refine n_iconst (pc := 25) (v := 0) hX d_La_law_25 (by decide) ?_
  refine n_istore (pc := 26) (i := 5) hX d_La_law_26 (by rw [hN]; decide) (g_st1b (ks := [0, 1, 2, 3, 4]) rfl (cr_cat _ _) rfl rfl) ?_
  refine n_sub (lv' := lvT E b (iN 0)) [5, 4, 3, 2, 1, 0] rfl ?_
  exact fun H locs ls h1 h2 h3 => kk H locs ls (RelN_Rel h1) h2 h3
