def wp_BM_type (o : Nat) (p1 : Int32) (A : Mem) (K : Int32 → Mem → Prop) (KX : Nat → Mem → Prop) : Prop := ((p1 < 0 → KX 0 A) ∧ (¬ p1 < 0 → ((p1 ≤ 127 → kd o = 1 ∧ (((gI A o 1) < 60 → kd (gR A o 0) = 52 ∧ vp_in (gI A o 1) (al (gR A o 0)) ∧ ∀ A4 : Mem, A4 = (sI (sI A (gR A o 0) (Int32.toNatClampNeg (gI A o 1)) (vp_nar .char ((Int32.toUInt32 p1 % 65536).toInt32))) o 1 ((gI (sI A (gR A o 0) (Int32.toNatClampNeg (gI A o 1)) (vp_nar .char ((Int32.toUInt32 p1 % 65536).toInt32))) o 1) + 1)) → K (gI A4 o 1) A4) ∧ (¬ (gI A o 1) < 60 → KX 1 A))) ∧ (¬ p1 ≤ 127 → KX 0 A))))
set_option maxRecDepth 100000 in
set_option maxHeartbeats 4000000 in
theorem c_BM_type (o : Nat) (p1 : Int32) (A : Mem) (K : Int32 → Mem → Prop) (KX : Nat → Mem → Prop) (h : wp_BM_type o p1 A K KX) : CtT y_BM_type prog_1_method_2_code 2 (some .int) 6 91 (fun E => [cr E o, .int (p1)]) A (PI K) KX := by
  refine ctT_of (by decide) rfl (fun E => [(0, cr E o), (1, .int (p1))]) (fun E => by simp [lg_sl, cr_cat, ca_i, ca_l, ca_d]) (fun E => by simp [lv_args, cr_cat, ca_i, ca_l, ca_d]) (fun X E hX hR hN hQ => ?_)
  unfold wp_BM_type at h
  refine g_iload_n (pc := 0) hX d_BM_type_0 rfl 1 rfl ?_
  refine g_if_lt (pc := 1) (tgt := 10) hX d_BM_type_1 (by decide) (fun q => ?_) (fun q => ?_)
  · have h := h.1 q
    exact g_throw (pc := 10) hX hQ.1 hQ.2 exo0 ext_0_33 d_BM_type_10 d_BM_type_13 d_BM_type_14 d_BM_type_16 d_BM_type_19 (Nat.lt_of_lt_of_le (by decide) hR.1) (Nat.le_trans (by decide) hR.2.1) h
  · have h := h.2 q
    refine g_iload_n (pc := 4) hX d_BM_type_4 rfl 1 rfl ?_
    refine g_bipush (pc := 5) (v := 127) hX d_BM_type_5 (by decide) ?_
    refine g_icmp_le (pc := 7) (tgt := 20) hX d_BM_type_7 (by decide) (fun q => ?_) (fun q => ?_)
    · have h := h.1 q
      refine g_aload_n (pc := 20) hX d_BM_type_20 rfl 0 rfl ?_
      obtain ⟨f1, h⟩ := h
      refine g_getI (pc := 21) hX fl_BM_38 rfl f1 d_BM_type_21 ?_
      refine g_bipush (pc := 24) (v := 60) hX d_BM_type_24 (by decide) ?_
      refine g_icmp_lt (pc := 26) (tgt := 39) hX d_BM_type_26 (by decide) (fun q => ?_) (fun q => ?_)
      · have h := h.1 q
        refine g_aload_n (pc := 39) hX d_BM_type_39 rfl 0 rfl ?_
        refine g_getR (pc := 40) hX fl_BM_9 rfl f1 d_BM_type_40 ?_
        refine g_aload_n (pc := 43) hX d_BM_type_43 rfl 0 rfl ?_
        refine g_getI (pc := 44) hX fl_BM_38 rfl f1 d_BM_type_44 ?_
        refine g_iload_n (pc := 47) hX d_BM_type_47 rfl 1 rfl ?_
        refine g_i2c (pc := 48) hX d_BM_type_48 rfl ?_
        obtain ⟨f2, h⟩ := h
        obtain ⟨f3, h⟩ := h
        refine g_castore (pc := 49) hX f2 f3 d_BM_type_49 ?_
        refine g_aload_n (pc := 50) hX d_BM_type_50 rfl 0 rfl ?_
        refine g_dup (pc := 51) hX d_BM_type_51 (cr_cat _ _) ?_
        refine g_getI (pc := 52) hX fl_BM_38 rfl f1 d_BM_type_52 ?_
        refine g_iconst (pc := 55) (v := 1) hX d_BM_type_55 (by decide) ?_
        refine g_iadd (pc := 56) hX d_BM_type_56 ?_
        refine g_putI (pc := 57) hX fl_BM_38 rfl rfl rfl f1 d_BM_type_57 ?_
        refine g_nm (fun A4 eA4 => ?_)
        have h := h A4 eA4
        refine g_aload_n (pc := 60) hX d_BM_type_60 rfl 0 rfl ?_
        refine g_getI (pc := 61) hX fl_BM_38 rfl f1 d_BM_type_61 ?_
        exact g_iretT hX hQ.1 rfl d_BM_type_64 ⟨_, rfl, h⟩
      · have h := h.2 q
        exact g_throw (pc := 29) hX hQ.1 hQ.2 exo1 ext_1_43 d_BM_type_29 d_BM_type_32 d_BM_type_33 d_BM_type_35 d_BM_type_38 (Nat.lt_of_lt_of_le (by decide) hR.1) (Nat.le_trans (by decide) hR.2.1) h
    · have h := h.2 q
      exact g_throw (pc := 10) hX hQ.1 hQ.2 exo0 ext_0_33 d_BM_type_10 d_BM_type_13 d_BM_type_14 d_BM_type_16 d_BM_type_19 (Nat.lt_of_lt_of_le (by decide) hR.1) (Nat.le_trans (by decide) hR.2.1) h
def wp_BM_printed (o : Nat) (p1 : Int32) (A : Mem) (K : UInt64 → Mem → Prop) (KX : Nat → Mem → Prop) : Prop := ((p1 < 0 → KX 2 A) ∧ (¬ p1 < 0 → ((40 ≤ p1 → KX 2 A) ∧ (¬ 40 ≤ p1 → kd o = 1 ∧ kd (gR A o 4) = 4 ∧ ((p1 < (gI A (gR A o 4) 4) → kd (gR A (gR A o 4) 3) = 53 ∧ vp_in p1 (al (gR A (gR A o 4) 3)) ∧ K (gD A (gR A (gR A o 4) 3) (Int32.toNatClampNeg p1)) A) ∧ (¬ p1 < (gI A (gR A o 4) 4) → KX 2 A))))))
set_option maxRecDepth 100000 in
set_option maxHeartbeats 4000000 in
theorem c_BM_printed (o : Nat) (p1 : Int32) (A : Mem) (K : UInt64 → Mem → Prop) (KX : Nat → Mem → Prop) (h : wp_BM_printed o p1 A K KX) : CtT y_BM_printed prog_1_method_7_code 2 (some .double) 6 91 (fun E => [cr E o, .int (p1)]) A (PD K) KX := by
  refine ctT_of (by decide) rfl (fun E => [(0, cr E o), (1, .int (p1))]) (fun E => by simp [lg_sl, cr_cat, ca_i, ca_l, ca_d]) (fun E => by simp [lv_args, cr_cat, ca_i, ca_l, ca_d]) (fun X E hX hR hN hQ => ?_)
  unfold wp_BM_printed at h
  refine g_iload_n (pc := 0) hX d_BM_printed_0 rfl 1 rfl ?_
  refine g_if_lt (pc := 1) (tgt := 21) hX d_BM_printed_1 (by decide) (fun q => ?_) (fun q => ?_)
  · have h := h.1 q
    exact g_throw (pc := 21) hX hQ.1 hQ.2 exo2 ext_2_106 d_BM_printed_21 d_BM_printed_24 d_BM_printed_25 d_BM_printed_27 d_BM_printed_30 (Nat.lt_of_lt_of_le (by decide) hR.1) (Nat.le_trans (by decide) hR.2.1) h
  · have h := h.2 q
    refine g_iload_n (pc := 4) hX d_BM_printed_4 rfl 1 rfl ?_
    refine g_bipush (pc := 5) (v := 40) hX d_BM_printed_5 (by decide) ?_
    refine g_icmp_ge (pc := 7) (tgt := 21) hX d_BM_printed_7 (by decide) (fun q => ?_) (fun q => ?_)
    · have h := h.1 q
      exact g_throw (pc := 21) hX hQ.1 hQ.2 exo2 ext_2_106 d_BM_printed_21 d_BM_printed_24 d_BM_printed_25 d_BM_printed_27 d_BM_printed_30 (Nat.lt_of_lt_of_le (by decide) hR.1) (Nat.le_trans (by decide) hR.2.1) h
    · have h := h.2 q
      refine g_iload_n (pc := 10) hX d_BM_printed_10 rfl 1 rfl ?_
      refine g_aload_n (pc := 11) hX d_BM_printed_11 rfl 0 rfl ?_
      obtain ⟨f1, h⟩ := h
      refine g_getR (pc := 12) hX fl_BM_27 rfl f1 d_BM_printed_12 ?_
      obtain ⟨f2, h⟩ := h
      refine g_getI (pc := 15) hX fl_BM_103 rfl f2 d_BM_printed_15 ?_
      refine g_icmp_lt (pc := 18) (tgt := 31) hX d_BM_printed_18 (by decide) (fun q => ?_) (fun q => ?_)
      · have h := h.1 q
        refine g_aload_n (pc := 31) hX d_BM_printed_31 rfl 0 rfl ?_
        refine g_getR (pc := 32) hX fl_BM_27 rfl f1 d_BM_printed_32 ?_
        refine g_getR (pc := 35) hX fl_BM_108 rfl f2 d_BM_printed_35 ?_
        refine g_iload_n (pc := 38) hX d_BM_printed_38 rfl 1 rfl ?_
        obtain ⟨f3, h⟩ := h
        obtain ⟨f4, h⟩ := h
        refine g_daload (pc := 39) hX f3 f4 d_BM_printed_39 ?_
        exact g_dretT hX hQ.1 rfl d_BM_printed_40 ⟨_, rfl, h⟩
      · have h := h.2 q
        exact g_throw (pc := 21) hX hQ.1 hQ.2 exo2 ext_2_106 d_BM_printed_21 d_BM_printed_24 d_BM_printed_25 d_BM_printed_27 d_BM_printed_30 (Nat.lt_of_lt_of_le (by decide) hR.1) (Nat.le_trans (by decide) hR.2.1) h
def wp_BM_element (o : Nat) (p1 : Int32) (p2 : Int32) (p3 : Int32) (A : Mem) (K : UInt64 → Mem → Prop) (KX : Nat → Mem → Prop) : Prop := ((p1 < 0 → KX 0 A) ∧ (¬ p1 < 0 → ((p1 ≤ 2 → kd o = 1 ∧ kd (gR A o 4) = 4 ∧ kd (gR A (gR A o 4) 1) = 6 ∧ wp_Ca_matrixAt (gR A (gR A o 4) 1) p1 A (fun (r4 : Nat) (A3 : Mem) => kd r4 = 7 ∧ wp_Mx_placeOf r4 (Int32.toInt64 p2) (Int32.toInt64 p3) A3 (fun (r7 : Int32) (A6 : Mem) => ((0 ≤ r7 → wp_Mx_get r4 r7 A6 (fun (r10 : UInt64) (A9 : Mem) => K r10 A9)) ∧ (¬ 0 ≤ r7 → KX 4 A6))))) ∧ (¬ p1 ≤ 2 → KX 0 A))))
set_option maxRecDepth 100000 in
set_option maxHeartbeats 4000000 in
theorem c_BM_element (o : Nat) (p1 : Int32) (p2 : Int32) (p3 : Int32) (A : Mem) (K : UInt64 → Mem → Prop) (KX : Nat → Mem → Prop) (h : wp_BM_element o p1 p2 p3 A K KX) : CtT y_BM_element prog_1_method_9_code 6 (some .double) 6 91 (fun E => [cr E o, .int (p1), .int (p2), .int (p3)]) A (PD K) KX := by
  refine ctT_of (by decide) rfl (fun E => [(0, cr E o), (1, .int (p1)), (2, .int (p2)), (3, .int (p3))]) (fun E => by simp [lg_sl, cr_cat, ca_i, ca_l, ca_d]) (fun E => by simp [lv_args, cr_cat, ca_i, ca_l, ca_d]) (fun X E hX hR hN hQ => ?_)
  unfold wp_BM_element at h
  refine g_iload_n (pc := 0) hX d_BM_element_0 rfl 1 rfl ?_
  refine g_if_lt (pc := 1) (tgt := 9) hX d_BM_element_1 (by decide) (fun q => ?_) (fun q => ?_)
  · have h := h.1 q
    exact g_throw (pc := 9) hX hQ.1 hQ.2 exo0 ext_0_127 d_BM_element_9 d_BM_element_12 d_BM_element_13 d_BM_element_15 d_BM_element_18 (Nat.lt_of_lt_of_le (by decide) hR.1) (Nat.le_trans (by decide) hR.2.1) h
  · have h := h.2 q
    refine g_iload_n (pc := 4) hX d_BM_element_4 rfl 1 rfl ?_
    refine g_iconst (pc := 5) (v := 2) hX d_BM_element_5 (by decide) ?_
    refine g_icmp_le (pc := 6) (tgt := 19) hX d_BM_element_6 (by decide) (fun q => ?_) (fun q => ?_)
    · have h := h.1 q
      refine g_aload_n (pc := 19) hX d_BM_element_19 rfl 0 rfl ?_
      obtain ⟨f1, h⟩ := h
      refine g_getR (pc := 20) hX fl_BM_27 rfl f1 d_BM_element_20 ?_
      obtain ⟨f2, h⟩ := h
      refine g_getR (pc := 23) hX fl_BM_117 rfl f2 d_BM_element_23 ?_
      refine g_iload_n (pc := 26) hX d_BM_element_26 rfl 1 rfl ?_
      obtain ⟨f5, h⟩ := h
      refine g_callV_R (pc := 27) hX hR f5 cf6 rfl lk_BM_129 mf_Ca_matrixAt (c_Ca_matrixAt _ _ _ _ h) rfl rfl rfl ⟨by decide, by decide⟩ (cat_sum _ (Nat.le_of_ble_eq_true rfl)) d_BM_element_27 (fun r4 A3 h => ?_)
      refine g_astore (pc := 30) (lv0 := [(3, .int (p3)), (0, cr E o), (1, .int (p1)), (2, .int (p2))]) hX d_BM_element_30 (by rw [hN]; decide) (g_st1b (ks := [3, 0, 1, 2]) rfl rfl rfl rfl) ?_
      refine g_aload (pc := 32) hX d_BM_element_32 0 rfl ?_
      refine g_iload_n (pc := 34) hX d_BM_element_34 rfl 4 rfl ?_
      refine g_i2l (pc := 35) hX d_BM_element_35 ?_
      refine g_iload_n (pc := 36) hX d_BM_element_36 rfl 1 rfl ?_
      refine g_i2l (pc := 37) hX d_BM_element_37 ?_
      obtain ⟨f8, h⟩ := h
      refine g_callV_I (pc := 38) hX hR f8 cf7 rfl lk_BM_133 mf_Mx_placeOf (c_Mx_placeOf _ _ _ _ _ h) rfl rfl rfl ⟨by decide, by decide⟩ (cat_sum _ (Nat.le_of_ble_eq_true rfl)) d_BM_element_38 (fun r7 A6 h => ?_)
      refine g_istore (pc := 41) (lv0 := [(4, cr E r4), (3, .int (p3)), (0, cr E o), (1, .int (p1)), (2, .int (p2))]) hX d_BM_element_41 (by rw [hN]; decide) (g_st1b (ks := [0, 1, 2, 3, 4]) rfl (cr_cat _ _) rfl rfl) ?_
      refine g_iload (pc := 43) hX d_BM_element_43 0 rfl ?_
      refine g_if_ge (pc := 45) (tgt := 58) hX d_BM_element_45 (by decide) (fun q => ?_) (fun q => ?_)
      · have h := h.1 q
        refine g_aload (pc := 58) hX d_BM_element_58 1 rfl ?_
        refine g_iload (pc := 60) hX d_BM_element_60 0 rfl ?_
        refine g_callV_D (pc := 62) hX hR f8 cf7 rfl lk_BM_144 mf_Mx_get (c_Mx_get _ _ _ _ h) rfl rfl rfl ⟨by decide, by decide⟩ (cat_sum _ (Nat.le_of_ble_eq_true rfl)) d_BM_element_62 (fun r10 A9 h => ?_)
        exact g_dretT hX hQ.1 rfl d_BM_element_65 ⟨_, rfl, h⟩
      · have h := h.2 q
        exact g_throw (pc := 48) hX hQ.1 hQ.2 exo4 ext_4_141 d_BM_element_48 d_BM_element_51 d_BM_element_52 d_BM_element_54 d_BM_element_57 (Nat.lt_of_lt_of_le (by decide) hR.1) (Nat.le_trans (by decide) hR.2.1) h
    · have h := h.2 q
      exact g_throw (pc := 9) hX hQ.1 hQ.2 exo0 ext_0_127 d_BM_element_9 d_BM_element_12 d_BM_element_13 d_BM_element_15 d_BM_element_18 (Nat.lt_of_lt_of_le (by decide) hR.1) (Nat.le_trans (by decide) hR.2.1) h
def wp_BM_raise (p0 : Nat) (A : Mem) (K : Mem → Prop) (KX : Nat → Mem → Prop) : Prop := (1200 ≤ p0 ∧ p0 < 1207) ∧ vp_in (nI (p0 - 1200)) 7 ∧ (((tb1302.getD (Int32.toNatClampNeg (nI (p0 - 1200))) 0) = 1 → KX 0 A) ∧ ((tb1302.getD (Int32.toNatClampNeg (nI (p0 - 1200))) 0) = 2 → KX 1 A) ∧ ((tb1302.getD (Int32.toNatClampNeg (nI (p0 - 1200))) 0) = 3 → KX 2 A) ∧ ((tb1302.getD (Int32.toNatClampNeg (nI (p0 - 1200))) 0) = 4 → KX 3 A) ∧ ((tb1302.getD (Int32.toNatClampNeg (nI (p0 - 1200))) 0) = 5 → KX 4 A) ∧ ((tb1302.getD (Int32.toNatClampNeg (nI (p0 - 1200))) 0) = 6 → KX 5 A) ∧ (¬ (tb1302.getD (Int32.toNatClampNeg (nI (p0 - 1200))) 0) = 1 → ¬ (tb1302.getD (Int32.toNatClampNeg (nI (p0 - 1200))) 0) = 2 → ¬ (tb1302.getD (Int32.toNatClampNeg (nI (p0 - 1200))) 0) = 3 → ¬ (tb1302.getD (Int32.toNatClampNeg (nI (p0 - 1200))) 0) = 4 → ¬ (tb1302.getD (Int32.toNatClampNeg (nI (p0 - 1200))) 0) = 5 → ¬ (tb1302.getD (Int32.toNatClampNeg (nI (p0 - 1200))) 0) = 6 → K A))
set_option maxRecDepth 100000 in
set_option maxHeartbeats 4000000 in
theorem c_BM_raise (p0 : Nat) (A : Mem) (K : Mem → Prop) (KX : Nat → Mem → Prop) (h : wp_BM_raise p0 A K KX) : CtT y_BM_raise prog_1_method_12_code 1 none 6 91 (fun E => [cr E p0]) A (PV K) KX := by
  refine ctT_of (by decide) rfl (fun E => [(0, cr E p0)]) (fun E => by simp [lg_sl, cr_cat, ca_i, ca_l, ca_d]) (fun E => by simp [lv_args, cr_cat, ca_i, ca_l, ca_d]) (fun X E hX hR hN hQ => ?_)
  unfold wp_BM_raise at h
  refine g_getsT (pc := 0) hX (gSF hX).2.2.2.2.2.1 (by decide) ls_BM_171 d_BM_raise_0 ?_
  refine g_aload_n (pc := 3) hX d_BM_raise_3 rfl 0 rfl ?_
  obtain ⟨f1, h⟩ := h
  refine g_ordinal (pc := 4) (C := "BasicMachine$Fault") (d := "LBasicMachine$Fault;") (nm := en1200) (b := 1200) hX hR (by decide) ⟨f1.1, by have h9 := f1; show _ - 1200 < 7; omega⟩ (fun _ _ _ h9 => h9.2.2.1) lk_BM_177 so_Fault so_Faultb (by decide) (cat_sum _ (Nat.le_of_ble_eq_true rfl)) d_BM_raise_4 ?_
  obtain ⟨f2, h⟩ := h
  refine g_tabld (pc := 7) hX (gSF hX).2.2.2.2.2.1 (by decide) f2 d_BM_raise_7 ?_
  by_cases q0 : (tb1302.getD (Int32.toNatClampNeg (nI (p0 - 1200))) 0) = 1
  · have h := h.1 q0
    refine g_tabin (pc := 8) (tgt := 48) (off := 40) hX (v := 1) q0 d_BM_raise_8 (by decide) (by decide) (by decide +kernel) (by decide) ?_
    exact g_throw (pc := 48) hX hQ.1 hQ.2 exo0 ext_0_183 d_BM_raise_48 d_BM_raise_51 d_BM_raise_52 d_BM_raise_54 d_BM_raise_57 (Nat.lt_of_lt_of_le (by decide) hR.1) (Nat.le_trans (by decide) hR.2.1) h
  by_cases q1 : (tb1302.getD (Int32.toNatClampNeg (nI (p0 - 1200))) 0) = 2
  · have h := h.2.1 q1
    refine g_tabin (pc := 8) (tgt := 58) (off := 50) hX (v := 2) q1 d_BM_raise_8 (by decide) (by decide) (by decide +kernel) (by decide) ?_
    exact g_throw (pc := 58) hX hQ.1 hQ.2 exo1 ext_1_185 d_BM_raise_58 d_BM_raise_61 d_BM_raise_62 d_BM_raise_64 d_BM_raise_67 (Nat.lt_of_lt_of_le (by decide) hR.1) (Nat.le_trans (by decide) hR.2.1) h
  by_cases q2 : (tb1302.getD (Int32.toNatClampNeg (nI (p0 - 1200))) 0) = 3
  · have h := h.2.2.1 q2
    refine g_tabin (pc := 8) (tgt := 68) (off := 60) hX (v := 3) q2 d_BM_raise_8 (by decide) (by decide) (by decide +kernel) (by decide) ?_
    exact g_throw (pc := 68) hX hQ.1 hQ.2 exo2 ext_2_187 d_BM_raise_68 d_BM_raise_71 d_BM_raise_72 d_BM_raise_74 d_BM_raise_77 (Nat.lt_of_lt_of_le (by decide) hR.1) (Nat.le_trans (by decide) hR.2.1) h
  by_cases q3 : (tb1302.getD (Int32.toNatClampNeg (nI (p0 - 1200))) 0) = 4
  · have h := h.2.2.2.1 q3
    refine g_tabin (pc := 8) (tgt := 78) (off := 70) hX (v := 4) q3 d_BM_raise_8 (by decide) (by decide) (by decide +kernel) (by decide) ?_
    exact g_throw (pc := 78) hX hQ.1 hQ.2 exo3 ext_3_191 d_BM_raise_78 d_BM_raise_81 d_BM_raise_82 d_BM_raise_84 d_BM_raise_87 (Nat.lt_of_lt_of_le (by decide) hR.1) (Nat.le_trans (by decide) hR.2.1) h
  by_cases q4 : (tb1302.getD (Int32.toNatClampNeg (nI (p0 - 1200))) 0) = 5
  · have h := h.2.2.2.2.1 q4
    refine g_tabin (pc := 8) (tgt := 88) (off := 80) hX (v := 5) q4 d_BM_raise_8 (by decide) (by decide) (by decide +kernel) (by decide) ?_
    exact g_throw (pc := 88) hX hQ.1 hQ.2 exo4 ext_4_141 d_BM_raise_88 d_BM_raise_91 d_BM_raise_92 d_BM_raise_94 d_BM_raise_97 (Nat.lt_of_lt_of_le (by decide) hR.1) (Nat.le_trans (by decide) hR.2.1) h
  by_cases q5 : (tb1302.getD (Int32.toNatClampNeg (nI (p0 - 1200))) 0) = 6
  · have h := h.2.2.2.2.2.1 q5
    refine g_tabin (pc := 8) (tgt := 98) (off := 90) hX (v := 6) q5 d_BM_raise_8 (by decide) (by decide) (by decide +kernel) (by decide) ?_
    exact g_throw (pc := 98) hX hQ.1 hQ.2 exo5 ext_5_196 d_BM_raise_98 d_BM_raise_101 d_BM_raise_102 d_BM_raise_104 d_BM_raise_107 (Nat.lt_of_lt_of_le (by decide) hR.1) (Nat.le_trans (by decide) hR.2.1) h
  have h := h.2.2.2.2.2.2 q0 q1 q2 q3 q4 q5
  refine g_tabout (pc := 8) (tgt := 108) hX (vs := [(1 : Int32), (2 : Int32), (3 : Int32), (4 : Int32), (5 : Int32), (6 : Int32)]) (List.forall_mem_cons.mpr ⟨q0, List.forall_mem_cons.mpr ⟨q1, List.forall_mem_cons.mpr ⟨q2, List.forall_mem_cons.mpr ⟨q3, List.forall_mem_cons.mpr ⟨q4, List.forall_mem_cons.mpr ⟨q5, fun _ h9 => absurd h9 List.not_mem_nil⟩⟩⟩⟩⟩⟩) d_BM_raise_8 (by decide +kernel) (by decide) ?_
  exact g_vretT hX hQ.1 rfl d_BM_raise_108 ⟨rfl, h⟩
def wp_BM_variable (o : Nat) (p1 : Int32) (A : Mem) (K : UInt64 → Mem → Prop) (KX : Nat → Mem → Prop) : Prop := ((p1 < 0 → KX 0 A) ∧ (¬ p1 < 0 → ((26 ≤ p1 → KX 0 A) ∧ (¬ 26 ≤ p1 → wp_BM_isVariable (65 + p1) A (fun (r2 : Bool) (A1 : Mem) => ((r2 = true → kd o = 1 ∧ kd (gR A1 o 4) = 4 ∧ kd (gR A1 (gR A1 o 4) 1) = 6 ∧ wp_Ca_get (gR A1 (gR A1 o 4) 1) p1 A1 (fun (r6 : UInt64) (A5 : Mem) => K r6 A5)) ∧ (r2 = false → KX 0 A1)))))))
set_option maxRecDepth 100000 in
set_option maxHeartbeats 4000000 in
theorem c_BM_variable (o : Nat) (p1 : Int32) (A : Mem) (K : UInt64 → Mem → Prop) (KX : Nat → Mem → Prop) (h : wp_BM_variable o p1 A K KX) : CtT y_BM_variable prog_1_method_8_code 2 (some .double) 6 91 (fun E => [cr E o, .int (p1)]) A (PD K) KX := by
  refine ctT_of (by decide) rfl (fun E => [(0, cr E o), (1, .int (p1))]) (fun E => by simp [lg_sl, cr_cat, ca_i, ca_l, ca_d]) (fun E => by simp [lv_args, cr_cat, ca_i, ca_l, ca_d]) (fun X E hX hR hN hQ => ?_)
  unfold wp_BM_variable at h
  refine g_iload_n (pc := 0) hX d_BM_variable_0 rfl 1 rfl ?_
  refine g_if_lt (pc := 1) (tgt := 20) hX d_BM_variable_1 (by decide) (fun q => ?_) (fun q => ?_)
  · have h := h.1 q
    exact g_throw (pc := 20) hX hQ.1 hQ.2 exo0 ext_0_115 d_BM_variable_20 d_BM_variable_23 d_BM_variable_24 d_BM_variable_26 d_BM_variable_29 (Nat.lt_of_lt_of_le (by decide) hR.1) (Nat.le_trans (by decide) hR.2.1) h
  · have h := h.2 q
    refine g_iload_n (pc := 4) hX d_BM_variable_4 rfl 1 rfl ?_
    refine g_bipush (pc := 5) (v := 26) hX d_BM_variable_5 (by decide) ?_
    refine g_icmp_ge (pc := 7) (tgt := 20) hX d_BM_variable_7 (by decide) (fun q => ?_) (fun q => ?_)
    · have h := h.1 q
      exact g_throw (pc := 20) hX hQ.1 hQ.2 exo0 ext_0_115 d_BM_variable_20 d_BM_variable_23 d_BM_variable_24 d_BM_variable_26 d_BM_variable_29 (Nat.lt_of_lt_of_le (by decide) hR.1) (Nat.le_trans (by decide) hR.2.1) h
    · have h := h.2 q
      refine g_bipush (pc := 10) (v := 65) hX d_BM_variable_10 (by decide) ?_
      refine g_iload_n (pc := 12) hX d_BM_variable_12 rfl 1 rfl ?_
      refine g_iadd (pc := 13) hX d_BM_variable_13 ?_
      refine g_callS_Z (pc := 14) hX hR lk_BM_112 mf_BM_isVariable (c_BM_isVariable _ _ _ h) rfl rfl rfl ⟨by decide, by decide⟩ (cat_sum _ (Nat.le_of_ble_eq_true rfl)) d_BM_variable_14 (fun r2 A1 h => ?_)
      refine g_ifB_ne (pc := 17) (tgt := 30) hX d_BM_variable_17 (by decide) (fun q => ?_) (fun q => ?_)
      · have h := h.1 q
        refine g_aload_n (pc := 30) hX d_BM_variable_30 rfl 0 rfl ?_
        obtain ⟨f3, h⟩ := h
        refine g_getR (pc := 31) hX fl_BM_27 rfl f3 d_BM_variable_31 ?_
        obtain ⟨f4, h⟩ := h
        refine g_getR (pc := 34) hX fl_BM_117 rfl f4 d_BM_variable_34 ?_
        refine g_iload_n (pc := 37) hX d_BM_variable_37 rfl 1 rfl ?_
        obtain ⟨f7, h⟩ := h
        refine g_callV_D (pc := 38) hX hR f7 cf6 rfl lk_BM_121 mf_Ca_get (c_Ca_get _ _ _ _ h) rfl rfl rfl ⟨by decide, by decide⟩ (cat_sum _ (Nat.le_of_ble_eq_true rfl)) d_BM_variable_38 (fun r6 A5 h => ?_)
        exact g_dretT hX hQ.1 rfl d_BM_variable_41 ⟨_, rfl, h⟩
      · have h := h.2 q
        exact g_throw (pc := 20) hX hQ.1 hQ.2 exo0 ext_0_115 d_BM_variable_20 d_BM_variable_23 d_BM_variable_24 d_BM_variable_26 d_BM_variable_29 (Nat.lt_of_lt_of_le (by decide) hR.1) (Nat.le_trans (by decide) hR.2.1) h
def wp_BM_run (o : Nat) (A : Mem) (K : Int32 → Mem → Prop) (KX : Nat → Mem → Prop) : Prop := kd o = 1 ∧ kd (gR A o 4) = 4 ∧ wp_Ma_execute (gR A o 4) A (fun (r3 : Nat) (A2 : Mem) => wp_BM_raise r3 A2 (fun (A5 : Mem) => kd o = 1 ∧ kd (gR A5 o 4) = 4 ∧ K (gI A5 (gR A5 o 4) 8) A5) KX)
set_option maxRecDepth 100000 in
set_option maxHeartbeats 4000000 in
theorem c_BM_run (o : Nat) (A : Mem) (K : Int32 → Mem → Prop) (KX : Nat → Mem → Prop) (h : wp_BM_run o A K KX) : CtT y_BM_run prog_1_method_6_code 1 (some .int) 20 507 (fun E => [cr E o]) A (PI K) KX := by
  refine ctT_of (by decide) rfl (fun E => [(0, cr E o)]) (fun E => by simp [lg_sl, cr_cat, ca_i, ca_l, ca_d]) (fun E => by simp [lv_args, cr_cat, ca_i, ca_l, ca_d]) (fun X E hX hR hN hQ => ?_)
  unfold wp_BM_run at h
  refine g_aload_n (pc := 0) hX d_BM_run_0 rfl 0 rfl ?_
  obtain ⟨f1, h⟩ := h
  refine g_getR (pc := 1) hX fl_BM_27 rfl f1 d_BM_run_1 ?_
  obtain ⟨f4, h⟩ := h
  refine g_callV_R (pc := 4) hX hR f4 cf4 rfl lk_BM_92 mf_Ma_execute (c_Ma_execute _ _ _ h) rfl rfl rfl ⟨by decide, by decide⟩ (cat_sum _ (Nat.le_of_ble_eq_true rfl)) d_BM_run_4 (fun r3 A2 h => ?_)
  refine g_callS_T (pc := 7) hX hR hQ lk_BM_96 mf_BM_raise (c_BM_raise _ _ _ _ h) rfl rfl rfl ⟨by decide, by decide⟩ (cat_sum _ (Nat.le_of_ble_eq_true rfl)) d_BM_run_7 (fun X hX hR hN hQ A5 h => ?_)
  refine g_aload_n (pc := 10) hX d_BM_run_10 rfl 0 rfl ?_
  obtain ⟨f6, h⟩ := h
  refine g_getR (pc := 11) hX fl_BM_27 rfl f6 d_BM_run_11 ?_
  obtain ⟨f7, h⟩ := h
  refine g_getI (pc := 14) hX fl_BM_100 rfl f7 d_BM_run_14 ?_
  exact g_iretT hX hQ.1 rfl d_BM_run_17 ⟨_, rfl, h⟩
def wp_BM_enter (o : Nat) (A : Mem) (K : Int32 → Mem → Prop) (KX : Nat → Mem → Prop) : Prop := kd o = 1 ∧ kd (gR A o 3) = 2 ∧ wp_Pa_takeApart (gR A o 3) (gR A o 0) (gI A o 1) A (fun (r3 : Bool) (A2 : Mem) => ((r3 = false → kd (gR (sI A2 o 1 0) o 3) = 2 ∧ ((r3 = true → kd (gR (sI (sI A2 o 1 0) o 2 (gI (sI A2 o 1 0) (gR (sI A2 o 1 0) o 3) 1)) o 3) = 2 ∧ kd (gR (sI (sI A2 o 1 0) o 2 (gI (sI A2 o 1 0) (gR (sI A2 o 1 0) o 3) 1)) (gR (sI (sI A2 o 1 0) o 2 (gI (sI A2 o 1 0) (gR (sI A2 o 1 0) o 3) 1)) o 3) 0) = 3 ∧ (((gI (sI (sI A2 o 1 0) o 2 (gI (sI A2 o 1 0) (gR (sI A2 o 1 0) o 3) 1)) (gR (sI (sI A2 o 1 0) o 2 (gI (sI A2 o 1 0) (gR (sI A2 o 1 0) o 3) 1)) (gR (sI (sI A2 o 1 0) o 2 (gI (sI A2 o 1 0) (gR (sI A2 o 1 0) o 3) 1)) o 3) 0) 1) = 0 → kd (gR (sI (sI A2 o 1 0) o 2 (gI (sI A2 o 1 0) (gR (sI A2 o 1 0) o 3) 1)) o 4) = 4 ∧ kd (gR (sI (sI A2 o 1 0) o 2 (gI (sI A2 o 1 0) (gR (sI A2 o 1 0) o 3) 1)) (gR (sI (sI A2 o 1 0) o 2 (gI (sI A2 o 1 0) (gR (sI A2 o 1 0) o 3) 1)) o 4) 0) = 5 ∧ wp_Pr_put (gR (sI (sI A2 o 1 0) o 2 (gI (sI A2 o 1 0) (gR (sI A2 o 1 0) o 3) 1)) (gR (sI (sI A2 o 1 0) o 2 (gI (sI A2 o 1 0) (gR (sI A2 o 1 0) o 3) 1)) o 4) 0) (gR (sI (sI A2 o 1 0) o 2 (gI (sI A2 o 1 0) (gR (sI A2 o 1 0) o 3) 1)) (gR (sI (sI A2 o 1 0) o 2 (gI (sI A2 o 1 0) (gR (sI A2 o 1 0) o 3) 1)) o 3) 0) (sI (sI A2 o 1 0) o 2 (gI (sI A2 o 1 0) (gR (sI A2 o 1 0) o 3) 1)) (fun (r10 : Nat) (A9 : Mem) => ((¬ r10 = 0 → kd (gR A9 o 3) = 2 ∧ kd (gR (sR A9 (gR A9 o 3) 0 r10) o 4) = 4 ∧ kd (gR (sR A9 (gR A9 o 3) 0 r10) (gR (sR A9 (gR A9 o 3) 0 r10) o 4) 0) = 5 ∧ K (gI (sR A9 (gR A9 o 3) 0 r10) (gR (sR A9 (gR A9 o 3) 0 r10) (gR (sR A9 (gR A9 o 3) 0 r10) o 4) 0) 0) (sR A9 (gR A9 o 3) 0 r10)) ∧ (r10 = 0 → KX 1 A9)))) ∧ (¬ (gI (sI (sI A2 o 1 0) o 2 (gI (sI A2 o 1 0) (gR (sI A2 o 1 0) o 3) 1)) (gR (sI (sI A2 o 1 0) o 2 (gI (sI A2 o 1 0) (gR (sI A2 o 1 0) o 3) 1)) (gR (sI (sI A2 o 1 0) o 2 (gI (sI A2 o 1 0) (gR (sI A2 o 1 0) o 3) 1)) o 3) 0) 1) = 0 → kd (gR (sI (sI A2 o 1 0) o 2 (gI (sI A2 o 1 0) (gR (sI A2 o 1 0) o 3) 1)) o 4) = 4 ∧ kd (gR (sI (sI A2 o 1 0) o 2 (gI (sI A2 o 1 0) (gR (sI A2 o 1 0) o 3) 1)) (gR (sI (sI A2 o 1 0) o 2 (gI (sI A2 o 1 0) (gR (sI A2 o 1 0) o 3) 1)) o 4) 0) = 5 ∧ wp_Pr_remove (gR (sI (sI A2 o 1 0) o 2 (gI (sI A2 o 1 0) (gR (sI A2 o 1 0) o 3) 1)) (gR (sI (sI A2 o 1 0) o 2 (gI (sI A2 o 1 0) (gR (sI A2 o 1 0) o 3) 1)) o 4) 0) (gI (sI (sI A2 o 1 0) o 2 (gI (sI A2 o 1 0) (gR (sI A2 o 1 0) o 3) 1)) (gR (sI (sI A2 o 1 0) o 2 (gI (sI A2 o 1 0) (gR (sI A2 o 1 0) o 3) 1)) (gR (sI (sI A2 o 1 0) o 2 (gI (sI A2 o 1 0) (gR (sI A2 o 1 0) o 3) 1)) o 3) 0) 0) (sI (sI A2 o 1 0) o 2 (gI (sI A2 o 1 0) (gR (sI A2 o 1 0) o 3) 1)) (fun (r17 : Bool) (A16 : Mem) => ((r17 = true → kd (gR A16 o 4) = 4 ∧ kd (gR A16 (gR A16 o 4) 0) = 5 ∧ K (gI A16 (gR A16 (gR A16 o 4) 0) 0) A16) ∧ (r17 = false → KX 2 A16)))))) ∧ (r3 = false → KX 0 (sI (sI A2 o 1 0) o 2 (gI (sI A2 o 1 0) (gR (sI A2 o 1 0) o 3) 1))))) ∧ (r3 = true → ((r3 = true → kd (gR (sI (sI A2 o 1 0) o 2 (-1)) o 3) = 2 ∧ kd (gR (sI (sI A2 o 1 0) o 2 (-1)) (gR (sI (sI A2 o 1 0) o 2 (-1)) o 3) 0) = 3 ∧ (((gI (sI (sI A2 o 1 0) o 2 (-1)) (gR (sI (sI A2 o 1 0) o 2 (-1)) (gR (sI (sI A2 o 1 0) o 2 (-1)) o 3) 0) 1) = 0 → kd (gR (sI (sI A2 o 1 0) o 2 (-1)) o 4) = 4 ∧ kd (gR (sI (sI A2 o 1 0) o 2 (-1)) (gR (sI (sI A2 o 1 0) o 2 (-1)) o 4) 0) = 5 ∧ wp_Pr_put (gR (sI (sI A2 o 1 0) o 2 (-1)) (gR (sI (sI A2 o 1 0) o 2 (-1)) o 4) 0) (gR (sI (sI A2 o 1 0) o 2 (-1)) (gR (sI (sI A2 o 1 0) o 2 (-1)) o 3) 0) (sI (sI A2 o 1 0) o 2 (-1)) (fun (r25 : Nat) (A24 : Mem) => ((¬ r25 = 0 → kd (gR A24 o 3) = 2 ∧ kd (gR (sR A24 (gR A24 o 3) 0 r25) o 4) = 4 ∧ kd (gR (sR A24 (gR A24 o 3) 0 r25) (gR (sR A24 (gR A24 o 3) 0 r25) o 4) 0) = 5 ∧ K (gI (sR A24 (gR A24 o 3) 0 r25) (gR (sR A24 (gR A24 o 3) 0 r25) (gR (sR A24 (gR A24 o 3) 0 r25) o 4) 0) 0) (sR A24 (gR A24 o 3) 0 r25)) ∧ (r25 = 0 → KX 1 A24)))) ∧ (¬ (gI (sI (sI A2 o 1 0) o 2 (-1)) (gR (sI (sI A2 o 1 0) o 2 (-1)) (gR (sI (sI A2 o 1 0) o 2 (-1)) o 3) 0) 1) = 0 → kd (gR (sI (sI A2 o 1 0) o 2 (-1)) o 4) = 4 ∧ kd (gR (sI (sI A2 o 1 0) o 2 (-1)) (gR (sI (sI A2 o 1 0) o 2 (-1)) o 4) 0) = 5 ∧ wp_Pr_remove (gR (sI (sI A2 o 1 0) o 2 (-1)) (gR (sI (sI A2 o 1 0) o 2 (-1)) o 4) 0) (gI (sI (sI A2 o 1 0) o 2 (-1)) (gR (sI (sI A2 o 1 0) o 2 (-1)) (gR (sI (sI A2 o 1 0) o 2 (-1)) o 3) 0) 0) (sI (sI A2 o 1 0) o 2 (-1)) (fun (r32 : Bool) (A31 : Mem) => ((r32 = true → kd (gR A31 o 4) = 4 ∧ kd (gR A31 (gR A31 o 4) 0) = 5 ∧ K (gI A31 (gR A31 (gR A31 o 4) 0) 0) A31) ∧ (r32 = false → KX 2 A31)))))) ∧ (r3 = false → KX 0 (sI (sI A2 o 1 0) o 2 (-1)))))))
set_option maxRecDepth 100000 in
set_option maxHeartbeats 4000000 in
theorem c_BM_enter (o : Nat) (A : Mem) (K : Int32 → Mem → Prop) (KX : Nat → Mem → Prop) (h : wp_BM_enter o A K KX) : CtT y_BM_enter prog_1_method_3_code 4 (some .int) 77 1659 (fun E => [cr E o]) A (PI K) KX := by
  refine ctT_of (by decide) rfl (fun E => [(0, cr E o)]) (fun E => by simp [lg_sl, cr_cat, ca_i, ca_l, ca_d]) (fun E => by simp [lv_args, cr_cat, ca_i, ca_l, ca_d]) (fun X E hX hR hN hQ => ?_)
  unfold wp_BM_enter at h
  refine g_aload_n (pc := 0) hX d_BM_enter_0 rfl 0 rfl ?_
  obtain ⟨f1, h⟩ := h
  refine g_getR (pc := 1) hX fl_BM_20 rfl f1 d_BM_enter_1 ?_
  refine g_aload_n (pc := 4) hX d_BM_enter_4 rfl 0 rfl ?_
  refine g_getR (pc := 5) hX fl_BM_9 rfl f1 d_BM_enter_5 ?_
  refine g_aload_n (pc := 8) hX d_BM_enter_8 rfl 0 rfl ?_
  refine g_getI (pc := 9) hX fl_BM_38 rfl f1 d_BM_enter_9 ?_
  obtain ⟨f4, h⟩ := h
  refine g_callV_Z (pc := 12) hX hR f4 cf2 rfl lk_BM_46 mf_Pa_takeApart (c_Pa_takeApart _ _ _ _ _ h) rfl rfl rfl ⟨by decide, by decide⟩ (cat_sum _ (Nat.le_of_ble_eq_true rfl)) d_BM_enter_12 (fun r3 A2 h => ?_)
  refine g_istore_n (pc := 15) (lv0 := [(0, cr E o)]) hX d_BM_enter_15 rfl (by rw [hN]; decide) (g_st1b (ks := [0]) rfl (cr_cat _ _) rfl rfl) ?_
  refine g_aload_n (pc := 16) hX d_BM_enter_16 rfl 1 rfl ?_
  refine g_iconst (pc := 17) (v := 0) hX d_BM_enter_17 (by decide) ?_
  refine g_putI (pc := 18) hX fl_BM_38 rfl rfl rfl f1 d_BM_enter_18 ?_
  refine g_aload_n (pc := 21) hX d_BM_enter_21 rfl 1 rfl ?_
  refine g_iload_n (pc := 22) hX d_BM_enter_22 rfl 0 rfl ?_
  refine g_ifB_eq (pc := 23) (tgt := 30) hX d_BM_enter_23 (by decide) (fun q => ?_) (fun q => ?_)
  · have h := h.1 q
    refine g_aload_n (pc := 30) hX d_BM_enter_30 rfl 1 rfl ?_
    refine g_getR (pc := 31) hX fl_BM_20 rfl f1 d_BM_enter_31 ?_
    obtain ⟨f5, h⟩ := h
    refine g_getI (pc := 34) hX fl_BM_50 rfl f5 d_BM_enter_34 ?_
    refine g_putI (pc := 37) hX fl_BM_13 rfl rfl rfl f1 d_BM_enter_37 ?_
    refine g_iload_n (pc := 40) hX d_BM_enter_40 rfl 0 rfl ?_
    refine g_ifB_ne (pc := 41) (tgt := 54) hX d_BM_enter_41 (by decide) (fun q => ?_) (fun q => ?_)
    · have h := h.1 q
      refine g_aload_n (pc := 54) hX d_BM_enter_54 rfl 1 rfl ?_
      refine g_getR (pc := 55) hX fl_BM_20 rfl f1 d_BM_enter_55 ?_
      obtain ⟨f6, h⟩ := h
      refine g_getR (pc := 58) hX fl_BM_55 rfl f6 d_BM_enter_58 ?_
      refine g_astore_n (pc := 61) (lv0 := [(1, .int (bI r3)), (0, cr E o)]) hX d_BM_enter_61 rfl (by rw [hN]; decide) (g_st1b (ks := [0, 1]) rfl rfl rfl rfl) ?_
      refine g_aload_n (pc := 62) hX d_BM_enter_62 rfl 0 rfl ?_
      obtain ⟨f7, h⟩ := h
      refine g_getI (pc := 63) hX fl_BM_59 rfl f7 d_BM_enter_63 ?_
      refine g_if_eq (pc := 66) (tgt := 107) hX d_BM_enter_66 (by decide) (fun q => ?_) (fun q => ?_)
      · have h := h.1 q
        refine g_aload_n (pc := 107) hX d_BM_enter_107 rfl 2 rfl ?_
        refine g_getR (pc := 108) hX fl_BM_27 rfl f1 d_BM_enter_108 ?_
        obtain ⟨f8, h⟩ := h
        refine g_getR (pc := 111) hX fl_BM_65 rfl f8 d_BM_enter_111 ?_
        refine g_aload_n (pc := 114) hX d_BM_enter_114 rfl 0 rfl ?_
        obtain ⟨f11, h⟩ := h
        refine g_callV_R (pc := 115) hX hR f11 cf5 rfl lk_BM_86 mf_Pr_put (c_Pr_put _ _ _ _ h) rfl rfl rfl ⟨by decide, by decide⟩ (cat_sum _ (Nat.le_of_ble_eq_true rfl)) d_BM_enter_115 (fun r10 A9 h => ?_)
        refine g_astore_n (pc := 118) (lv0 := [(2, cr E (gR (sI (sI A2 o 1 0) o 2 (gI (sI A2 o 1 0) (gR (sI A2 o 1 0) o 3) 1)) (gR (sI (sI A2 o 1 0) o 2 (gI (sI A2 o 1 0) (gR (sI A2 o 1 0) o 3) 1)) o 3) 0)), (1, .int (bI r3)), (0, cr E o)]) hX d_BM_enter_118 rfl (by rw [hN]; decide) (g_st1b (ks := [0, 1, 2]) rfl (cr_cat _ _) rfl rfl) ?_
        refine g_aload_n (pc := 119) hX d_BM_enter_119 rfl 0 rfl ?_
        refine g_ifnonnull (pc := 120) (tgt := 133) hX d_BM_enter_120 (by decide) (fun q => ?_) (fun q => ?_)
        · have h := h.1 q
          refine g_aload_n (pc := 133) hX d_BM_enter_133 rfl 3 rfl ?_
          refine g_getR (pc := 134) hX fl_BM_20 rfl f1 d_BM_enter_134 ?_
          refine g_aload_n (pc := 137) hX d_BM_enter_137 rfl 0 rfl ?_
          obtain ⟨f12, h⟩ := h
          refine g_putR (pc := 138) hX fl_BM_55 rfl rfl rfl f12 d_BM_enter_138 ?_
          refine g_aload_n (pc := 141) hX d_BM_enter_141 rfl 3 rfl ?_
          refine g_getR (pc := 142) hX fl_BM_27 rfl f1 d_BM_enter_142 ?_
          obtain ⟨f13, h⟩ := h
          refine g_getR (pc := 145) hX fl_BM_65 rfl f13 d_BM_enter_145 ?_
          obtain ⟨f14, h⟩ := h
          refine g_getI (pc := 148) hX fl_BM_83 rfl f14 d_BM_enter_148 ?_
          exact g_iretT hX hQ.1 rfl d_BM_enter_151 ⟨_, rfl, h⟩
        · have h := h.2 q
          exact g_throw (pc := 123) hX hQ.1 hQ.2 exo1 ext_1_90 d_BM_enter_123 d_BM_enter_126 d_BM_enter_127 d_BM_enter_129 d_BM_enter_132 (Nat.lt_of_lt_of_le (by decide) hR.1) (Nat.le_trans (by decide) hR.2.1) h
      · have h := h.2 q
        refine g_aload_n (pc := 69) hX d_BM_enter_69 rfl 2 rfl ?_
        refine g_getR (pc := 70) hX fl_BM_27 rfl f1 d_BM_enter_70 ?_
        obtain ⟨f15, h⟩ := h
        refine g_getR (pc := 73) hX fl_BM_65 rfl f15 d_BM_enter_73 ?_
        refine g_aload_n (pc := 76) hX d_BM_enter_76 rfl 0 rfl ?_
        refine g_getI (pc := 77) hX fl_BM_69 rfl f7 d_BM_enter_77 ?_
        obtain ⟨f18, h⟩ := h
        refine g_callV_Z (pc := 80) hX hR f18 cf5 rfl lk_BM_72 mf_Pr_remove (c_Pr_remove _ _ _ _ h) rfl rfl rfl ⟨by decide, by decide⟩ (cat_sum _ (Nat.le_of_ble_eq_true rfl)) d_BM_enter_80 (fun r17 A16 h => ?_)
        refine g_ifB_ne (pc := 83) (tgt := 96) hX d_BM_enter_83 (by decide) (fun q => ?_) (fun q => ?_)
        · have h := h.1 q
          refine g_aload_n (pc := 96) hX d_BM_enter_96 rfl 2 rfl ?_
          refine g_getR (pc := 97) hX fl_BM_27 rfl f1 d_BM_enter_97 ?_
          obtain ⟨f19, h⟩ := h
          refine g_getR (pc := 100) hX fl_BM_65 rfl f19 d_BM_enter_100 ?_
          obtain ⟨f20, h⟩ := h
          refine g_getI (pc := 103) hX fl_BM_83 rfl f20 d_BM_enter_103 ?_
          exact g_iretT hX hQ.1 rfl d_BM_enter_106 ⟨_, rfl, h⟩
        · have h := h.2 q
          exact g_throw (pc := 86) hX hQ.1 hQ.2 exo2 ext_2_80 d_BM_enter_86 d_BM_enter_89 d_BM_enter_90 d_BM_enter_92 d_BM_enter_95 (Nat.lt_of_lt_of_le (by decide) hR.1) (Nat.le_trans (by decide) hR.2.1) h
    · have h := h.2 q
      exact g_throw (pc := 44) hX hQ.1 hQ.2 exo0 ext_0_53 d_BM_enter_44 d_BM_enter_47 d_BM_enter_48 d_BM_enter_50 d_BM_enter_53 (Nat.lt_of_lt_of_le (by decide) hR.1) (Nat.le_trans (by decide) hR.2.1) h
  · have h := h.2 q
    refine g_iconst (pc := 26) (v := (-1)) hX d_BM_enter_26 (by decide) ?_
    refine g_goto (pc := 27) (tgt := 37) hX d_BM_enter_27 (by decide) ?_
    refine g_putI (pc := 37) hX fl_BM_13 rfl rfl rfl f1 d_BM_enter_37 ?_
    refine g_iload_n (pc := 40) hX d_BM_enter_40 rfl 0 rfl ?_
    refine g_ifB_ne (pc := 41) (tgt := 54) hX d_BM_enter_41 (by decide) (fun q => ?_) (fun q => ?_)
    · have h := h.1 q
      refine g_aload_n (pc := 54) hX d_BM_enter_54 rfl 1 rfl ?_
      refine g_getR (pc := 55) hX fl_BM_20 rfl f1 d_BM_enter_55 ?_
      obtain ⟨f21, h⟩ := h
      refine g_getR (pc := 58) hX fl_BM_55 rfl f21 d_BM_enter_58 ?_
      refine g_astore_n (pc := 61) (lv0 := [(1, .int (bI r3)), (0, cr E o)]) hX d_BM_enter_61 rfl (by rw [hN]; decide) (g_st1b (ks := [0, 1]) rfl rfl rfl rfl) ?_
      refine g_aload_n (pc := 62) hX d_BM_enter_62 rfl 0 rfl ?_
      obtain ⟨f22, h⟩ := h
      refine g_getI (pc := 63) hX fl_BM_59 rfl f22 d_BM_enter_63 ?_
      refine g_if_eq (pc := 66) (tgt := 107) hX d_BM_enter_66 (by decide) (fun q => ?_) (fun q => ?_)
      · have h := h.1 q
        refine g_aload_n (pc := 107) hX d_BM_enter_107 rfl 2 rfl ?_
        refine g_getR (pc := 108) hX fl_BM_27 rfl f1 d_BM_enter_108 ?_
        obtain ⟨f23, h⟩ := h
        refine g_getR (pc := 111) hX fl_BM_65 rfl f23 d_BM_enter_111 ?_
        refine g_aload_n (pc := 114) hX d_BM_enter_114 rfl 0 rfl ?_
        obtain ⟨f26, h⟩ := h
        refine g_callV_R (pc := 115) hX hR f26 cf5 rfl lk_BM_86 mf_Pr_put (c_Pr_put _ _ _ _ h) rfl rfl rfl ⟨by decide, by decide⟩ (cat_sum _ (Nat.le_of_ble_eq_true rfl)) d_BM_enter_115 (fun r25 A24 h => ?_)
        refine g_astore_n (pc := 118) (lv0 := [(2, cr E (gR (sI (sI A2 o 1 0) o 2 (-1)) (gR (sI (sI A2 o 1 0) o 2 (-1)) o 3) 0)), (1, .int (bI r3)), (0, cr E o)]) hX d_BM_enter_118 rfl (by rw [hN]; decide) (g_st1b (ks := [0, 1, 2]) rfl (cr_cat _ _) rfl rfl) ?_
        refine g_aload_n (pc := 119) hX d_BM_enter_119 rfl 0 rfl ?_
        refine g_ifnonnull (pc := 120) (tgt := 133) hX d_BM_enter_120 (by decide) (fun q => ?_) (fun q => ?_)
        · have h := h.1 q
          refine g_aload_n (pc := 133) hX d_BM_enter_133 rfl 3 rfl ?_
          refine g_getR (pc := 134) hX fl_BM_20 rfl f1 d_BM_enter_134 ?_
          refine g_aload_n (pc := 137) hX d_BM_enter_137 rfl 0 rfl ?_
          obtain ⟨f27, h⟩ := h
          refine g_putR (pc := 138) hX fl_BM_55 rfl rfl rfl f27 d_BM_enter_138 ?_
          refine g_aload_n (pc := 141) hX d_BM_enter_141 rfl 3 rfl ?_
          refine g_getR (pc := 142) hX fl_BM_27 rfl f1 d_BM_enter_142 ?_
          obtain ⟨f28, h⟩ := h
          refine g_getR (pc := 145) hX fl_BM_65 rfl f28 d_BM_enter_145 ?_
          obtain ⟨f29, h⟩ := h
          refine g_getI (pc := 148) hX fl_BM_83 rfl f29 d_BM_enter_148 ?_
          exact g_iretT hX hQ.1 rfl d_BM_enter_151 ⟨_, rfl, h⟩
        · have h := h.2 q
          exact g_throw (pc := 123) hX hQ.1 hQ.2 exo1 ext_1_90 d_BM_enter_123 d_BM_enter_126 d_BM_enter_127 d_BM_enter_129 d_BM_enter_132 (Nat.lt_of_lt_of_le (by decide) hR.1) (Nat.le_trans (by decide) hR.2.1) h
      · have h := h.2 q
        refine g_aload_n (pc := 69) hX d_BM_enter_69 rfl 2 rfl ?_
        refine g_getR (pc := 70) hX fl_BM_27 rfl f1 d_BM_enter_70 ?_
        obtain ⟨f30, h⟩ := h
        refine g_getR (pc := 73) hX fl_BM_65 rfl f30 d_BM_enter_73 ?_
        refine g_aload_n (pc := 76) hX d_BM_enter_76 rfl 0 rfl ?_
        refine g_getI (pc := 77) hX fl_BM_69 rfl f22 d_BM_enter_77 ?_
        obtain ⟨f33, h⟩ := h
        refine g_callV_Z (pc := 80) hX hR f33 cf5 rfl lk_BM_72 mf_Pr_remove (c_Pr_remove _ _ _ _ h) rfl rfl rfl ⟨by decide, by decide⟩ (cat_sum _ (Nat.le_of_ble_eq_true rfl)) d_BM_enter_80 (fun r32 A31 h => ?_)
        refine g_ifB_ne (pc := 83) (tgt := 96) hX d_BM_enter_83 (by decide) (fun q => ?_) (fun q => ?_)
        · have h := h.1 q
          refine g_aload_n (pc := 96) hX d_BM_enter_96 rfl 2 rfl ?_
          refine g_getR (pc := 97) hX fl_BM_27 rfl f1 d_BM_enter_97 ?_
          obtain ⟨f34, h⟩ := h
          refine g_getR (pc := 100) hX fl_BM_65 rfl f34 d_BM_enter_100 ?_
          obtain ⟨f35, h⟩ := h
          refine g_getI (pc := 103) hX fl_BM_83 rfl f35 d_BM_enter_103 ?_
          exact g_iretT hX hQ.1 rfl d_BM_enter_106 ⟨_, rfl, h⟩
        · have h := h.2 q
          exact g_throw (pc := 86) hX hQ.1 hQ.2 exo2 ext_2_80 d_BM_enter_86 d_BM_enter_89 d_BM_enter_90 d_BM_enter_92 d_BM_enter_95 (Nat.lt_of_lt_of_le (by decide) hR.1) (Nat.le_trans (by decide) hR.2.1) h
    · have h := h.2 q
      exact g_throw (pc := 44) hX hQ.1 hQ.2 exo0 ext_0_53 d_BM_enter_44 d_BM_enter_47 d_BM_enter_48 d_BM_enter_50 d_BM_enter_53 (Nat.lt_of_lt_of_le (by decide) hR.1) (Nat.le_trans (by decide) hR.2.1) h
