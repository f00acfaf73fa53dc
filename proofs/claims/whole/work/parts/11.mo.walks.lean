def wp_Mo_thrown (o : Nat) (A : Mem) (K : Int32 → Mem → Prop) : Prop := kd o = 9 ∧ K (gI A o 0) A
set_option maxRecDepth 100000 in
set_option maxHeartbeats 4000000 in
theorem c_Mo_thrown (o : Nat) (A : Mem) (K : Int32 → Mem → Prop) (h : wp_Mo_thrown o A K) : CtI y_Mo_thrown prog_14_method_2_code 1 0 0 (fun E => [cr E o]) A K := by
  refine ctI_of "BasicMachineModel" (by decide) rfl (fun E => [(0, cr E o)]) (fun E => by simp [lg_sl, cr_cat, ca_i, ca_l, ca_d]) (fun E => by simp [lv_args, cr_cat, ca_i, ca_l, ca_d]) (fun X E hX hR hN hQ => ?_)
  unfold wp_Mo_thrown at h
  refine g_aload_n (pc := 0) hX d_Mo_thrown_0 rfl 0 rfl ?_
  obtain ⟨f1, h⟩ := h
  refine g_getI (pc := 1) hX fl_Mo_7 rfl f1 d_Mo_thrown_1 ?_
  exact g_iret hX hQ h d_Mo_thrown_4
def wp_Mo_refuse (o : Nat) (p1 : Int32) (A : Mem) (K : Int32 → Mem → Prop) : Prop := kd o = 9 ∧ K 0 (sI A o 0 p1)
set_option maxRecDepth 100000 in
set_option maxHeartbeats 4000000 in
theorem c_Mo_refuse (o : Nat) (p1 : Int32) (A : Mem) (K : Int32 → Mem → Prop) (h : wp_Mo_refuse o p1 A K) : CtI y_Mo_refuse prog_14_method_3_code 2 0 0 (fun E => [cr E o, .int (p1)]) A K := by
  refine ctI_of "BasicMachineModel" (by decide) rfl (fun E => [(0, cr E o), (1, .int (p1))]) (fun E => by simp [lg_sl, cr_cat, ca_i, ca_l, ca_d]) (fun E => by simp [lv_args, cr_cat, ca_i, ca_l, ca_d]) (fun X E hX hR hN hQ => ?_)
  unfold wp_Mo_refuse at h
  refine g_aload_n (pc := 0) hX d_Mo_refuse_0 rfl 0 rfl ?_
  refine g_iload_n (pc := 1) hX d_Mo_refuse_1 rfl 1 rfl ?_
  obtain ⟨f1, h⟩ := h
  refine g_putI (pc := 2) hX fl_Mo_7 rfl rfl rfl f1 d_Mo_refuse_2 ?_
  refine g_iconst (pc := 5) (v := 0) hX d_Mo_refuse_5 (by decide) ?_
  exact g_iret hX hQ h d_Mo_refuse_6
def wp_Mo_fine (o : Nat) (p1 : Int32) (A : Mem) (K : Int32 → Mem → Prop) : Prop := kd o = 9 ∧ K p1 (sI A o 0 0)
set_option maxRecDepth 100000 in
set_option maxHeartbeats 4000000 in
theorem c_Mo_fine (o : Nat) (p1 : Int32) (A : Mem) (K : Int32 → Mem → Prop) (h : wp_Mo_fine o p1 A K) : CtI y_Mo_fine prog_14_method_4_code 2 0 0 (fun E => [cr E o, .int (p1)]) A K := by
  refine ctI_of "BasicMachineModel" (by decide) rfl (fun E => [(0, cr E o), (1, .int (p1))]) (fun E => by simp [lg_sl, cr_cat, ca_i, ca_l, ca_d]) (fun E => by simp [lv_args, cr_cat, ca_i, ca_l, ca_d]) (fun X E hX hR hN hQ => ?_)
  unfold wp_Mo_fine at h
  refine g_aload_n (pc := 0) hX d_Mo_fine_0 rfl 0 rfl ?_
  refine g_iconst (pc := 1) (v := 0) hX d_Mo_fine_1 (by decide) ?_
  obtain ⟨f1, h⟩ := h
  refine g_putI (pc := 2) hX fl_Mo_7 rfl rfl rfl f1 d_Mo_fine_2 ?_
  refine g_iload_n (pc := 5) hX d_Mo_fine_5 rfl 1 rfl ?_
  exact g_iret hX hQ h d_Mo_fine_6
def wp_Mo_type (o : Nat) (p1 : Int32) (A : Mem) (K : Int32 → Mem → Prop) : Prop := ((p1 < 0 → kd o = 9 ∧ wp_Mo_refuse o 1 A (fun (r2 : Int32) (A1 : Mem) => K r2 A1)) ∧ (¬ p1 < 0 → ((p1 ≤ 127 → kd o = 9 ∧ ((¬ (gI A o 1) = 60 → kd (gR A o 8) = 52 ∧ vp_in (gI A o 1) (al (gR A o 8)) ∧ ∀ A7 : Mem, A7 = (sI (sI A (gR A o 8) (Int32.toNatClampNeg (gI A o 1)) (vp_nar .char ((Int32.toUInt32 p1 % 65536).toInt32))) o 1 ((gI (sI A (gR A o 8) (Int32.toNatClampNeg (gI A o 1)) (vp_nar .char ((Int32.toUInt32 p1 % 65536).toInt32))) o 1) + 1)) → wp_Mo_fine o (gI A7 o 1) A7 (fun (r9 : Int32) (A8 : Mem) => K r9 A8)) ∧ ((gI A o 1) = 60 → wp_Mo_refuse o 2 A (fun (r11 : Int32) (A10 : Mem) => K r11 A10)))) ∧ (¬ p1 ≤ 127 → kd o = 9 ∧ wp_Mo_refuse o 1 A (fun (r13 : Int32) (A12 : Mem) => K r13 A12)))))
set_option maxRecDepth 100000 in
set_option maxHeartbeats 4000000 in
theorem c_Mo_type (o : Nat) (p1 : Int32) (A : Mem) (K : Int32 → Mem → Prop) (h : wp_Mo_type o p1 A K) : CtI y_Mo_type prog_14_method_5_code 2 1 21 (fun E => [cr E o, .int (p1)]) A K := by
  refine ctI_of "BasicMachineModel" (by decide) rfl (fun E => [(0, cr E o), (1, .int (p1))]) (fun E => by simp [lg_sl, cr_cat, ca_i, ca_l, ca_d]) (fun E => by simp [lv_args, cr_cat, ca_i, ca_l, ca_d]) (fun X E hX hR hN hQ => ?_)
  unfold wp_Mo_type at h
  refine g_iload_n (pc := 0) hX d_Mo_type_0 rfl 1 rfl ?_
  refine g_if_lt (pc := 1) (tgt := 10) hX d_Mo_type_1 (by decide) (fun q => ?_) (fun q => ?_)
  · have h := h.1 q
    refine g_aload_n (pc := 10) hX d_Mo_type_10 rfl 0 rfl ?_
    refine g_iconst (pc := 11) (v := 1) hX d_Mo_type_11 (by decide) ?_
    obtain ⟨f3, h⟩ := h
    refine g_callV_I (pc := 12) hX hR f3 cf9 rfl lk_Mo_149 mf_Mo_refuse (c_Mo_refuse _ _ _ _ h) rfl rfl rfl ⟨by decide, by decide⟩ (cat_sum _ (Nat.le_of_ble_eq_true rfl)) d_Mo_type_12 (fun r2 A1 h => ?_)
    exact g_iret hX hQ h d_Mo_type_15
  · have h := h.2 q
    refine g_iload_n (pc := 4) hX d_Mo_type_4 rfl 1 rfl ?_
    refine g_bipush (pc := 5) (v := 127) hX d_Mo_type_5 (by decide) ?_
    refine g_icmp_le (pc := 7) (tgt := 16) hX d_Mo_type_7 (by decide) (fun q => ?_) (fun q => ?_)
    · have h := h.1 q
      refine g_aload_n (pc := 16) hX d_Mo_type_16 rfl 0 rfl ?_
      obtain ⟨f4, h⟩ := h
      refine g_getI (pc := 17) hX fl_Mo_13 rfl f4 d_Mo_type_17 ?_
      refine g_bipush (pc := 20) (v := 60) hX d_Mo_type_20 (by decide) ?_
      refine g_icmp_ne (pc := 22) (tgt := 31) hX d_Mo_type_22 (by decide) (fun q => ?_) (fun q => ?_)
      · have h := h.1 q
        refine g_aload_n (pc := 31) hX d_Mo_type_31 rfl 0 rfl ?_
        refine g_getR (pc := 32) hX fl_Mo_35 rfl f4 d_Mo_type_32 ?_
        refine g_aload_n (pc := 35) hX d_Mo_type_35 rfl 0 rfl ?_
        refine g_getI (pc := 36) hX fl_Mo_13 rfl f4 d_Mo_type_36 ?_
        refine g_iload_n (pc := 39) hX d_Mo_type_39 rfl 1 rfl ?_
        refine g_i2c (pc := 40) hX d_Mo_type_40 rfl ?_
        obtain ⟨f5, h⟩ := h
        obtain ⟨f6, h⟩ := h
        refine g_castore (pc := 41) hX f5 f6 d_Mo_type_41 ?_
        refine g_aload_n (pc := 42) hX d_Mo_type_42 rfl 0 rfl ?_
        refine g_dup (pc := 43) hX d_Mo_type_43 (cr_cat _ _) ?_
        refine g_getI (pc := 44) hX fl_Mo_13 rfl f4 d_Mo_type_44 ?_
        refine g_iconst (pc := 47) (v := 1) hX d_Mo_type_47 (by decide) ?_
        refine g_iadd (pc := 48) hX d_Mo_type_48 ?_
        refine g_putI (pc := 49) hX fl_Mo_13 rfl rfl rfl f4 d_Mo_type_49 ?_
        refine g_nm (fun A7 eA7 => ?_)
        have h := h A7 eA7
        refine g_aload_n (pc := 52) hX d_Mo_type_52 rfl 0 rfl ?_
        refine g_aload_n (pc := 53) hX d_Mo_type_53 rfl 0 rfl ?_
        refine g_getI (pc := 54) hX fl_Mo_13 rfl f4 d_Mo_type_54 ?_
        refine g_callV_I (pc := 57) hX hR f4 cf9 rfl lk_Mo_153 mf_Mo_fine (c_Mo_fine _ _ _ _ h) rfl rfl rfl ⟨by decide, by decide⟩ (cat_sum _ (Nat.le_of_ble_eq_true rfl)) d_Mo_type_57 (fun r9 A8 h => ?_)
        exact g_iret hX hQ h d_Mo_type_60
      · have h := h.2 q
        refine g_aload_n (pc := 25) hX d_Mo_type_25 rfl 0 rfl ?_
        refine g_iconst (pc := 26) (v := 2) hX d_Mo_type_26 (by decide) ?_
        refine g_callV_I (pc := 27) hX hR f4 cf9 rfl lk_Mo_149 mf_Mo_refuse (c_Mo_refuse _ _ _ _ h) rfl rfl rfl ⟨by decide, by decide⟩ (cat_sum _ (Nat.le_of_ble_eq_true rfl)) d_Mo_type_27 (fun r11 A10 h => ?_)
        exact g_iret hX hQ h d_Mo_type_30
    · have h := h.2 q
      refine g_aload_n (pc := 10) hX d_Mo_type_10 rfl 0 rfl ?_
      refine g_iconst (pc := 11) (v := 1) hX d_Mo_type_11 (by decide) ?_
      obtain ⟨f14, h⟩ := h
      refine g_callV_I (pc := 12) hX hR f14 cf9 rfl lk_Mo_149 mf_Mo_refuse (c_Mo_refuse _ _ _ _ h) rfl rfl rfl ⟨by decide, by decide⟩ (cat_sum _ (Nat.le_of_ble_eq_true rfl)) d_Mo_type_12 (fun r13 A12 h => ?_)
      exact g_iret hX hQ h d_Mo_type_15
def wp_Mo_look (o : Nat) (A : Mem) (K : Int32 → Mem → Prop) : Prop := kd o = 9 ∧ (((gI A o 2) ≤ (gI A o 4) → K 0 A) ∧ (¬ (gI A o 2) ≤ (gI A o 4) → kd (gR A o 9) = 52 ∧ vp_in (gI A o 4) (al (gR A o 9)) ∧ K (gI A (gR A o 9) (Int32.toNatClampNeg (gI A o 4))) A))
set_option maxRecDepth 100000 in
set_option maxHeartbeats 4000000 in
theorem c_Mo_look (o : Nat) (A : Mem) (K : Int32 → Mem → Prop) (h : wp_Mo_look o A K) : CtI y_Mo_look prog_14_method_6_code 1 0 0 (fun E => [cr E o]) A K := by
  refine ctI_of "BasicMachineModel" (by decide) rfl (fun E => [(0, cr E o)]) (fun E => by simp [lg_sl, cr_cat, ca_i, ca_l, ca_d]) (fun E => by simp [lv_args, cr_cat, ca_i, ca_l, ca_d]) (fun X E hX hR hN hQ => ?_)
  unfold wp_Mo_look at h
  refine g_aload_n (pc := 0) hX d_Mo_look_0 rfl 0 rfl ?_
  obtain ⟨f1, h⟩ := h
  refine g_getI (pc := 1) hX fl_Mo_22 rfl f1 d_Mo_look_1 ?_
  refine g_aload_n (pc := 4) hX d_Mo_look_4 rfl 0 rfl ?_
  refine g_getI (pc := 5) hX fl_Mo_16 rfl f1 d_Mo_look_5 ?_
  refine g_icmp_ge (pc := 8) (tgt := 23) hX d_Mo_look_8 (by decide) (fun q => ?_) (fun q => ?_)
  · have h := h.1 q
    refine g_iconst (pc := 23) (v := 0) hX d_Mo_look_23 (by decide) ?_
    exact g_iret hX hQ h d_Mo_look_24
  · have h := h.2 q
    refine g_aload_n (pc := 11) hX d_Mo_look_11 rfl 0 rfl ?_
    refine g_getR (pc := 12) hX fl_Mo_39 rfl f1 d_Mo_look_12 ?_
    refine g_aload_n (pc := 15) hX d_Mo_look_15 rfl 0 rfl ?_
    refine g_getI (pc := 16) hX fl_Mo_22 rfl f1 d_Mo_look_16 ?_
    obtain ⟨f2, h⟩ := h
    obtain ⟨f3, h⟩ := h
    refine g_caload (pc := 19) hX f2 f3 d_Mo_look_19 ?_
    refine g_goto (pc := 20) (tgt := 24) hX d_Mo_look_20 (by decide) ?_
    exact g_iret hX hQ h d_Mo_look_24
def wp_Mo_lookAt (o : Nat) (p1 : Int32) (A : Mem) (K : Int32 → Mem → Prop) : Prop := kd o = 9 ∧ (((gI A o 2) ≤ ((gI A o 4) + p1) → K 0 A) ∧ (¬ (gI A o 2) ≤ ((gI A o 4) + p1) → kd (gR A o 9) = 52 ∧ vp_in ((gI A o 4) + p1) (al (gR A o 9)) ∧ K (gI A (gR A o 9) (Int32.toNatClampNeg ((gI A o 4) + p1))) A))
set_option maxRecDepth 100000 in
set_option maxHeartbeats 4000000 in
theorem c_Mo_lookAt (o : Nat) (p1 : Int32) (A : Mem) (K : Int32 → Mem → Prop) (h : wp_Mo_lookAt o p1 A K) : CtI y_Mo_lookAt prog_14_method_7_code 2 0 0 (fun E => [cr E o, .int (p1)]) A K := by
  refine ctI_of "BasicMachineModel" (by decide) rfl (fun E => [(0, cr E o), (1, .int (p1))]) (fun E => by simp [lg_sl, cr_cat, ca_i, ca_l, ca_d]) (fun E => by simp [lv_args, cr_cat, ca_i, ca_l, ca_d]) (fun X E hX hR hN hQ => ?_)
  unfold wp_Mo_lookAt at h
  refine g_aload_n (pc := 0) hX d_Mo_lookAt_0 rfl 0 rfl ?_
  obtain ⟨f1, h⟩ := h
  refine g_getI (pc := 1) hX fl_Mo_22 rfl f1 d_Mo_lookAt_1 ?_
  refine g_iload_n (pc := 4) hX d_Mo_lookAt_4 rfl 1 rfl ?_
  refine g_iadd (pc := 5) hX d_Mo_lookAt_5 ?_
  refine g_aload_n (pc := 6) hX d_Mo_lookAt_6 rfl 0 rfl ?_
  refine g_getI (pc := 7) hX fl_Mo_16 rfl f1 d_Mo_lookAt_7 ?_
  refine g_icmp_ge (pc := 10) (tgt := 27) hX d_Mo_lookAt_10 (by decide) (fun q => ?_) (fun q => ?_)
  · have h := h.1 q
    refine g_iconst (pc := 27) (v := 0) hX d_Mo_lookAt_27 (by decide) ?_
    exact g_iret hX hQ h d_Mo_lookAt_28
  · have h := h.2 q
    refine g_aload_n (pc := 13) hX d_Mo_lookAt_13 rfl 0 rfl ?_
    refine g_getR (pc := 14) hX fl_Mo_39 rfl f1 d_Mo_lookAt_14 ?_
    refine g_aload_n (pc := 17) hX d_Mo_lookAt_17 rfl 0 rfl ?_
    refine g_getI (pc := 18) hX fl_Mo_22 rfl f1 d_Mo_lookAt_18 ?_
    refine g_iload_n (pc := 21) hX d_Mo_lookAt_21 rfl 1 rfl ?_
    refine g_iadd (pc := 22) hX d_Mo_lookAt_22 ?_
    obtain ⟨f2, h⟩ := h
    obtain ⟨f3, h⟩ := h
    refine g_caload (pc := 23) hX f2 f3 d_Mo_lookAt_23 ?_
    refine g_goto (pc := 24) (tgt := 28) hX d_Mo_lookAt_24 (by decide) ?_
    exact g_iret hX hQ h d_Mo_lookAt_28
def wp_Mo_take (o : Nat) (p1 : Int32) (A : Mem) (K : Bool → Mem → Prop) : Prop := kd o = 9 ∧ ((¬ (gI A o 7) = 0 → K false A) ∧ ((gI A o 7) = 0 → wp_Mo_look o A (fun (r3 : Int32) (A2 : Mem) => ((r3 = p1 → K true (sI A2 o 4 ((gI A2 o 4) + 1))) ∧ (¬ r3 = p1 → K false A2)))))
set_option maxRecDepth 100000 in
set_option maxHeartbeats 4000000 in
theorem c_Mo_take (o : Nat) (p1 : Int32) (A : Mem) (K : Bool → Mem → Prop) (h : wp_Mo_take o p1 A K) : CtZ y_Mo_take prog_14_method_8_code 2 1 20 (fun E => [cr E o, .int (p1)]) A K := by
  refine ctZ_of "BasicMachineModel" (by decide) rfl (fun E => [(0, cr E o), (1, .int (p1))]) (fun E => by simp [lg_sl, cr_cat, ca_i, ca_l, ca_d]) (fun E => by simp [lv_args, cr_cat, ca_i, ca_l, ca_d]) (fun X E hX hR hN hQ => ?_)
  unfold wp_Mo_take at h
  refine g_aload_n (pc := 0) hX d_Mo_take_0 rfl 0 rfl ?_
  obtain ⟨f1, h⟩ := h
  refine g_getI (pc := 1) hX fl_Mo_31 rfl f1 d_Mo_take_1 ?_
  refine g_if_ne (pc := 4) (tgt := 15) hX d_Mo_take_4 (by decide) (fun q => ?_) (fun q => ?_)
  · have h := h.1 q
    refine g_iconst (pc := 15) (v := 0) hX d_Mo_take_15 (by decide) ?_
    exact g_zret hX hQ false rfl h d_Mo_take_16
  · have h := h.2 q
    refine g_aload_n (pc := 7) hX d_Mo_take_7 rfl 0 rfl ?_
    refine g_callV_I (pc := 8) hX hR f1 cf9 rfl lk_Mo_156 mf_Mo_look (c_Mo_look _ _ _ h) rfl rfl rfl ⟨by decide, by decide⟩ (cat_sum _ (Nat.le_of_ble_eq_true rfl)) d_Mo_take_8 (fun r3 A2 h => ?_)
    refine g_iload_n (pc := 11) hX d_Mo_take_11 rfl 1 rfl ?_
    refine g_icmp_eq (pc := 12) (tgt := 17) hX d_Mo_take_12 (by decide) (fun q => ?_) (fun q => ?_)
    · have h := h.1 q
      refine g_aload_n (pc := 17) hX d_Mo_take_17 rfl 0 rfl ?_
      refine g_dup (pc := 18) hX d_Mo_take_18 (cr_cat _ _) ?_
      refine g_getI (pc := 19) hX fl_Mo_22 rfl f1 d_Mo_take_19 ?_
      refine g_iconst (pc := 22) (v := 1) hX d_Mo_take_22 (by decide) ?_
      refine g_iadd (pc := 23) hX d_Mo_take_23 ?_
      refine g_putI (pc := 24) hX fl_Mo_22 rfl rfl rfl f1 d_Mo_take_24 ?_
      refine g_iconst (pc := 27) (v := 1) hX d_Mo_take_27 (by decide) ?_
      exact g_zret hX hQ true rfl h d_Mo_take_28
    · have h := h.2 q
      refine g_iconst (pc := 15) (v := 0) hX d_Mo_take_15 (by decide) ?_
      exact g_zret hX hQ false rfl h d_Mo_take_16
def wp_Mo_need (o : Nat) (p1 : Int32) (A : Mem) (K : Mem → Prop) : Prop := kd o = 9 ∧ wp_Mo_take o p1 A (fun (r2 : Bool) (A1 : Mem) => ((r2 = true → K A1) ∧ (r2 = false → K (sI A1 o 7 1))))
set_option maxRecDepth 100000 in
set_option maxHeartbeats 4000000 in
theorem c_Mo_need (o : Nat) (p1 : Int32) (A : Mem) (K : Mem → Prop) (h : wp_Mo_need o p1 A K) : CtV y_Mo_need prog_14_method_9_code 2 2 41 (fun E => [cr E o, .int (p1)]) A K := by
  refine ctV_of "BasicMachineModel" (by decide) rfl (fun E => [(0, cr E o), (1, .int (p1))]) (fun E => by simp [lg_sl, cr_cat, ca_i, ca_l, ca_d]) (fun E => by simp [lv_args, cr_cat, ca_i, ca_l, ca_d]) (fun X E hX hR hN hQ => ?_)
  unfold wp_Mo_need at h
  refine g_aload_n (pc := 0) hX d_Mo_need_0 rfl 0 rfl ?_
  refine g_iload_n (pc := 1) hX d_Mo_need_1 rfl 1 rfl ?_
  obtain ⟨f3, h⟩ := h
  refine g_callV_Z (pc := 2) hX hR f3 cf9 rfl lk_Mo_160 mf_Mo_take (c_Mo_take _ _ _ _ h) rfl rfl rfl ⟨by decide, by decide⟩ (cat_sum _ (Nat.le_of_ble_eq_true rfl)) d_Mo_need_2 (fun r2 A1 h => ?_)
  refine g_ifB_ne (pc := 5) (tgt := 13) hX d_Mo_need_5 (by decide) (fun q => ?_) (fun q => ?_)
  · have h := h.1 q
    exact g_vret hX hQ h d_Mo_need_13
  · have h := h.2 q
    refine g_aload_n (pc := 8) hX d_Mo_need_8 rfl 0 rfl ?_
    refine g_iconst (pc := 9) (v := 1) hX d_Mo_need_9 (by decide) ?_
    refine g_putZ (pc := 10) hX (Or.inr rfl) fl_Mo_31 rfl rfl rfl f3 d_Mo_need_10 ?_
    exact g_vret hX hQ h d_Mo_need_13
def wp_Mo_isDigit (o : Nat) (A : Mem) (K : Bool → Mem → Prop) : Prop := kd o = 9 ∧ wp_Mo_look o A (fun (r2 : Int32) (A1 : Mem) => ((r2 < 48 → K false A1) ∧ (¬ r2 < 48 → wp_Mo_look o A1 (fun (r5 : Int32) (A4 : Mem) => ((57 < r5 → K false A4) ∧ (¬ 57 < r5 → K true A4))))))
set_option maxRecDepth 100000 in
set_option maxHeartbeats 4000000 in
theorem c_Mo_isDigit (o : Nat) (A : Mem) (K : Bool → Mem → Prop) (h : wp_Mo_isDigit o A K) : CtZ y_Mo_isDigit prog_14_method_10_code 1 1 20 (fun E => [cr E o]) A K := by
  refine ctZ_of "BasicMachineModel" (by decide) rfl (fun E => [(0, cr E o)]) (fun E => by simp [lg_sl, cr_cat, ca_i, ca_l, ca_d]) (fun E => by simp [lv_args, cr_cat, ca_i, ca_l, ca_d]) (fun X E hX hR hN hQ => ?_)
  unfold wp_Mo_isDigit at h
  refine g_aload_n (pc := 0) hX d_Mo_isDigit_0 rfl 0 rfl ?_
  obtain ⟨f3, h⟩ := h
  refine g_callV_I (pc := 1) hX hR f3 cf9 rfl lk_Mo_156 mf_Mo_look (c_Mo_look _ _ _ h) rfl rfl rfl ⟨by decide, by decide⟩ (cat_sum _ (Nat.le_of_ble_eq_true rfl)) d_Mo_isDigit_1 (fun r2 A1 h => ?_)
  refine g_bipush (pc := 4) (v := 48) hX d_Mo_isDigit_4 (by decide) ?_
  refine g_icmp_lt (pc := 6) (tgt := 22) hX d_Mo_isDigit_6 (by decide) (fun q => ?_) (fun q => ?_)
  · have h := h.1 q
    refine g_iconst (pc := 22) (v := 0) hX d_Mo_isDigit_22 (by decide) ?_
    exact g_zret hX hQ false rfl h d_Mo_isDigit_23
  · have h := h.2 q
    refine g_aload_n (pc := 9) hX d_Mo_isDigit_9 rfl 0 rfl ?_
    refine g_callV_I (pc := 10) hX hR f3 cf9 rfl lk_Mo_156 mf_Mo_look (c_Mo_look _ _ _ h) rfl rfl rfl ⟨by decide, by decide⟩ (cat_sum _ (Nat.le_of_ble_eq_true rfl)) d_Mo_isDigit_10 (fun r5 A4 h => ?_)
    refine g_bipush (pc := 13) (v := 57) hX d_Mo_isDigit_13 (by decide) ?_
    refine g_icmp_gt (pc := 15) (tgt := 22) hX d_Mo_isDigit_15 (by decide) (fun q => ?_) (fun q => ?_)
    · have h := h.1 q
      refine g_iconst (pc := 22) (v := 0) hX d_Mo_isDigit_22 (by decide) ?_
      exact g_zret hX hQ false rfl h d_Mo_isDigit_23
    · have h := h.2 q
      refine g_iconst (pc := 18) (v := 1) hX d_Mo_isDigit_18 (by decide) ?_
      refine g_goto (pc := 19) (tgt := 23) hX d_Mo_isDigit_19 (by decide) ?_
      exact g_zret hX hQ true rfl h d_Mo_isDigit_23
def wp_Mo_word (o : Nat) (p1 : Int32) (A : Mem) (K : Int64 → Mem → Prop) : Prop := ((p1 = 0 → K 4998484 A) ∧ (p1 = 1 → K 344977919572 A) ∧ (p1 = 2 → K 18758 A) ∧ (p1 = 3 → K 1196381263 A) ∧ (p1 = 4 → K 20302 A) ∧ (p1 = 5 → K 306273539394 A) ∧ (p1 = 6 → K 90457721098830 A) ∧ (p1 = 7 → K 4607826 A) ∧ (p1 = 8 → K 1313167444 A) ∧ (p1 = 9 → K 1380270404 A) ∧ (p1 = 10 → K 1145132097 A) ∧ (p1 = 11 → K 23157172289360453 A) ∧ (p1 = 12 → K 4475213 A) ∧ (p1 = 13 → K 4474182 A) ∧ (p1 = 14 → K 5062996 A) ∧ (p1 = 15 → K 5391693 A) ∧ (p1 = 16 → K 4542020 A) ∧ (p1 = 17 → K 1414022478 A) ∧ (p1 = 18 → K 21583 A) ∧ (p1 = 19 → K 1398031696 A) ∧ (p1 = 20 → K 5915986 A) ∧ (p1 = 21 → K 4411214 A) ∧ (p1 = 22 → K 4801614 A) ∧ (p1 = 23 → K 5526094 A) ∧ (p1 = 24 → K 4276819 A) ∧ (p1 = 25 → K 4804180 A) ∧ (p1 = 26 → K 5457742 A) ∧ (¬ p1 = 0 → ¬ p1 = 1 → ¬ p1 = 2 → ¬ p1 = 3 → ¬ p1 = 4 → ¬ p1 = 5 → ¬ p1 = 6 → ¬ p1 = 7 → ¬ p1 = 8 → ¬ p1 = 9 → ¬ p1 = 10 → ¬ p1 = 11 → ¬ p1 = 12 → ¬ p1 = 13 → ¬ p1 = 14 → ¬ p1 = 15 → ¬ p1 = 16 → ¬ p1 = 17 → ¬ p1 = 18 → ¬ p1 = 19 → ¬ p1 = 20 → ¬ p1 = 21 → ¬ p1 = 22 → ¬ p1 = 23 → ¬ p1 = 24 → ¬ p1 = 25 → ¬ p1 = 26 → K 17998 A))
set_option maxRecDepth 100000 in
set_option maxHeartbeats 4000000 in
theorem c_Mo_word (o : Nat) (p1 : Int32) (A : Mem) (K : Int64 → Mem → Prop) (h : wp_Mo_word o p1 A K) : CtJ y_Mo_word prog_14_method_11_code 2 0 0 (fun E => [cr E o, .int (p1)]) A K := by
  refine ctJ_of "BasicMachineModel" (by decide) rfl (fun E => [(0, cr E o), (1, .int (p1))]) (fun E => by simp [lg_sl, cr_cat, ca_i, ca_l, ca_d]) (fun E => by simp [lv_args, cr_cat, ca_i, ca_l, ca_d]) (fun X E hX hR hN hQ => ?_)
  unfold wp_Mo_word at h
  refine g_iload_n (pc := 0) hX d_Mo_word_0 rfl 1 rfl ?_
  by_cases q0 : p1 = 0
  · have h := h.1 q0
    refine g_tabin (pc := 1) (tgt := 124) (off := 123) hX (v := 0) q0 d_Mo_word_1 (by decide) (by decide) (by decide +kernel) (by decide) ?_
    refine g_ldc2l (pc := 124) hX d_Mo_word_124 cn_Mo_164 ?_
    exact g_lret hX hQ h d_Mo_word_127
  by_cases q1 : p1 = 1
  · have h := h.2.1 q1
    refine g_tabin (pc := 1) (tgt := 128) (off := 127) hX (v := 1) q1 d_Mo_word_1 (by decide) (by decide) (by decide +kernel) (by decide) ?_
    refine g_ldc2l (pc := 128) hX d_Mo_word_128 cn_Mo_166 ?_
    exact g_lret hX hQ h d_Mo_word_131
  by_cases q2 : p1 = 2
  · have h := h.2.2.1 q2
    refine g_tabin (pc := 1) (tgt := 132) (off := 131) hX (v := 2) q2 d_Mo_word_1 (by decide) (by decide) (by decide +kernel) (by decide) ?_
    refine g_ldc2l (pc := 132) hX d_Mo_word_132 cn_Mo_168 ?_
    exact g_lret hX hQ h d_Mo_word_135
  by_cases q3 : p1 = 3
  · have h := h.2.2.2.1 q3
    refine g_tabin (pc := 1) (tgt := 136) (off := 135) hX (v := 3) q3 d_Mo_word_1 (by decide) (by decide) (by decide +kernel) (by decide) ?_
    refine g_ldc2l (pc := 136) hX d_Mo_word_136 cn_Mo_170 ?_
    exact g_lret hX hQ h d_Mo_word_139
  by_cases q4 : p1 = 4
  · have h := h.2.2.2.2.1 q4
    refine g_tabin (pc := 1) (tgt := 140) (off := 139) hX (v := 4) q4 d_Mo_word_1 (by decide) (by decide) (by decide +kernel) (by decide) ?_
    refine g_ldc2l (pc := 140) hX d_Mo_word_140 cn_Mo_172 ?_
    exact g_lret hX hQ h d_Mo_word_143
  by_cases q5 : p1 = 5
  · have h := h.2.2.2.2.2.1 q5
    refine g_tabin (pc := 1) (tgt := 144) (off := 143) hX (v := 5) q5 d_Mo_word_1 (by decide) (by decide) (by decide +kernel) (by decide) ?_
    refine g_ldc2l (pc := 144) hX d_Mo_word_144 cn_Mo_174 ?_
    exact g_lret hX hQ h d_Mo_word_147
  by_cases q6 : p1 = 6
  · have h := h.2.2.2.2.2.2.1 q6
    refine g_tabin (pc := 1) (tgt := 148) (off := 147) hX (v := 6) q6 d_Mo_word_1 (by decide) (by decide) (by decide +kernel) (by decide) ?_
    refine g_ldc2l (pc := 148) hX d_Mo_word_148 cn_Mo_176 ?_
    exact g_lret hX hQ h d_Mo_word_151
  by_cases q7 : p1 = 7
  · have h := h.2.2.2.2.2.2.2.1 q7
    refine g_tabin (pc := 1) (tgt := 152) (off := 151) hX (v := 7) q7 d_Mo_word_1 (by decide) (by decide) (by decide +kernel) (by decide) ?_
    refine g_ldc2l (pc := 152) hX d_Mo_word_152 cn_Mo_178 ?_
    exact g_lret hX hQ h d_Mo_word_155
  by_cases q8 : p1 = 8
  · have h := h.2.2.2.2.2.2.2.2.1 q8
    refine g_tabin (pc := 1) (tgt := 156) (off := 155) hX (v := 8) q8 d_Mo_word_1 (by decide) (by decide) (by decide +kernel) (by decide) ?_
    refine g_ldc2l (pc := 156) hX d_Mo_word_156 cn_Mo_180 ?_
    exact g_lret hX hQ h d_Mo_word_159
  by_cases q9 : p1 = 9
  · have h := h.2.2.2.2.2.2.2.2.2.1 q9
    refine g_tabin (pc := 1) (tgt := 160) (off := 159) hX (v := 9) q9 d_Mo_word_1 (by decide) (by decide) (by decide +kernel) (by decide) ?_
    refine g_ldc2l (pc := 160) hX d_Mo_word_160 cn_Mo_182 ?_
    exact g_lret hX hQ h d_Mo_word_163
  by_cases q10 : p1 = 10
  · have h := h.2.2.2.2.2.2.2.2.2.2.1 q10
    refine g_tabin (pc := 1) (tgt := 164) (off := 163) hX (v := 10) q10 d_Mo_word_1 (by decide) (by decide) (by decide +kernel) (by decide) ?_
    refine g_ldc2l (pc := 164) hX d_Mo_word_164 cn_Mo_184 ?_
    exact g_lret hX hQ h d_Mo_word_167
  by_cases q11 : p1 = 11
  · have h := h.2.2.2.2.2.2.2.2.2.2.2.1 q11
    refine g_tabin (pc := 1) (tgt := 168) (off := 167) hX (v := 11) q11 d_Mo_word_1 (by decide) (by decide) (by decide +kernel) (by decide) ?_
    refine g_ldc2l (pc := 168) hX d_Mo_word_168 cn_Mo_186 ?_
    exact g_lret hX hQ h d_Mo_word_171
  by_cases q12 : p1 = 12
  · have h := h.2.2.2.2.2.2.2.2.2.2.2.2.1 q12
    refine g_tabin (pc := 1) (tgt := 172) (off := 171) hX (v := 12) q12 d_Mo_word_1 (by decide) (by decide) (by decide +kernel) (by decide) ?_
    refine g_ldc2l (pc := 172) hX d_Mo_word_172 cn_Mo_188 ?_
    exact g_lret hX hQ h d_Mo_word_175
  by_cases q13 : p1 = 13
  · have h := h.2.2.2.2.2.2.2.2.2.2.2.2.2.1 q13
    refine g_tabin (pc := 1) (tgt := 176) (off := 175) hX (v := 13) q13 d_Mo_word_1 (by decide) (by decide) (by decide +kernel) (by decide) ?_
    refine g_ldc2l (pc := 176) hX d_Mo_word_176 cn_Mo_190 ?_
    exact g_lret hX hQ h d_Mo_word_179
  by_cases q14 : p1 = 14
  · have h := h.2.2.2.2.2.2.2.2.2.2.2.2.2.2.1 q14
    refine g_tabin (pc := 1) (tgt := 180) (off := 179) hX (v := 14) q14 d_Mo_word_1 (by decide) (by decide) (by decide +kernel) (by decide) ?_
    refine g_ldc2l (pc := 180) hX d_Mo_word_180 cn_Mo_192 ?_
    exact g_lret hX hQ h d_Mo_word_183
  by_cases q15 : p1 = 15
  · have h := h.2.2.2.2.2.2.2.2.2.2.2.2.2.2.2.1 q15
    refine g_tabin (pc := 1) (tgt := 184) (off := 183) hX (v := 15) q15 d_Mo_word_1 (by decide) (by decide) (by decide +kernel) (by decide) ?_
    refine g_ldc2l (pc := 184) hX d_Mo_word_184 cn_Mo_194 ?_
    exact g_lret hX hQ h d_Mo_word_187
  by_cases q16 : p1 = 16
  · have h := h.2.2.2.2.2.2.2.2.2.2.2.2.2.2.2.2.1 q16
    refine g_tabin (pc := 1) (tgt := 188) (off := 187) hX (v := 16) q16 d_Mo_word_1 (by decide) (by decide) (by decide +kernel) (by decide) ?_
    refine g_ldc2l (pc := 188) hX d_Mo_word_188 cn_Mo_196 ?_
    exact g_lret hX hQ h d_Mo_word_191
  by_cases q17 : p1 = 17
  · have h := h.2.2.2.2.2.2.2.2.2.2.2.2.2.2.2.2.2.1 q17
    refine g_tabin (pc := 1) (tgt := 192) (off := 191) hX (v := 17) q17 d_Mo_word_1 (by decide) (by decide) (by decide +kernel) (by decide) ?_
    refine g_ldc2l (pc := 192) hX d_Mo_word_192 cn_Mo_198 ?_
    exact g_lret hX hQ h d_Mo_word_195
  by_cases q18 : p1 = 18
  · have h := h.2.2.2.2.2.2.2.2.2.2.2.2.2.2.2.2.2.2.1 q18
    refine g_tabin (pc := 1) (tgt := 196) (off := 195) hX (v := 18) q18 d_Mo_word_1 (by decide) (by decide) (by decide +kernel) (by decide) ?_
    refine g_ldc2l (pc := 196) hX d_Mo_word_196 cn_Mo_200 ?_
    exact g_lret hX hQ h d_Mo_word_199
  by_cases q19 : p1 = 19
  · have h := h.2.2.2.2.2.2.2.2.2.2.2.2.2.2.2.2.2.2.2.1 q19
    refine g_tabin (pc := 1) (tgt := 200) (off := 199) hX (v := 19) q19 d_Mo_word_1 (by decide) (by decide) (by decide +kernel) (by decide) ?_
    refine g_ldc2l (pc := 200) hX d_Mo_word_200 cn_Mo_202 ?_
    exact g_lret hX hQ h d_Mo_word_203
  by_cases q20 : p1 = 20
  · have h := h.2.2.2.2.2.2.2.2.2.2.2.2.2.2.2.2.2.2.2.2.1 q20
    refine g_tabin (pc := 1) (tgt := 204) (off := 203) hX (v := 20) q20 d_Mo_word_1 (by decide) (by decide) (by decide +kernel) (by decide) ?_
    refine g_ldc2l (pc := 204) hX d_Mo_word_204 cn_Mo_204 ?_
    exact g_lret hX hQ h d_Mo_word_207
  by_cases q21 : p1 = 21
  · have h := h.2.2.2.2.2.2.2.2.2.2.2.2.2.2.2.2.2.2.2.2.2.1 q21
    refine g_tabin (pc := 1) (tgt := 208) (off := 207) hX (v := 21) q21 d_Mo_word_1 (by decide) (by decide) (by decide +kernel) (by decide) ?_
    refine g_ldc2l (pc := 208) hX d_Mo_word_208 cn_Mo_206 ?_
    exact g_lret hX hQ h d_Mo_word_211
  by_cases q22 : p1 = 22
  · have h := h.2.2.2.2.2.2.2.2.2.2.2.2.2.2.2.2.2.2.2.2.2.2.1 q22
    refine g_tabin (pc := 1) (tgt := 212) (off := 211) hX (v := 22) q22 d_Mo_word_1 (by decide) (by decide) (by decide +kernel) (by decide) ?_
    refine g_ldc2l (pc := 212) hX d_Mo_word_212 cn_Mo_208 ?_
    exact g_lret hX hQ h d_Mo_word_215
  by_cases q23 : p1 = 23
  · have h := h.2.2.2.2.2.2.2.2.2.2.2.2.2.2.2.2.2.2.2.2.2.2.2.1 q23
    refine g_tabin (pc := 1) (tgt := 216) (off := 215) hX (v := 23) q23 d_Mo_word_1 (by decide) (by decide) (by decide +kernel) (by decide) ?_
    refine g_ldc2l (pc := 216) hX d_Mo_word_216 cn_Mo_210 ?_
    exact g_lret hX hQ h d_Mo_word_219
  by_cases q24 : p1 = 24
  · have h := h.2.2.2.2.2.2.2.2.2.2.2.2.2.2.2.2.2.2.2.2.2.2.2.2.1 q24
    refine g_tabin (pc := 1) (tgt := 220) (off := 219) hX (v := 24) q24 d_Mo_word_1 (by decide) (by decide) (by decide +kernel) (by decide) ?_
    refine g_ldc2l (pc := 220) hX d_Mo_word_220 cn_Mo_212 ?_
    exact g_lret hX hQ h d_Mo_word_223
  by_cases q25 : p1 = 25
  · have h := h.2.2.2.2.2.2.2.2.2.2.2.2.2.2.2.2.2.2.2.2.2.2.2.2.2.1 q25
    refine g_tabin (pc := 1) (tgt := 224) (off := 223) hX (v := 25) q25 d_Mo_word_1 (by decide) (by decide) (by decide +kernel) (by decide) ?_
    refine g_ldc2l (pc := 224) hX d_Mo_word_224 cn_Mo_214 ?_
    exact g_lret hX hQ h d_Mo_word_227
  by_cases q26 : p1 = 26
  · have h := h.2.2.2.2.2.2.2.2.2.2.2.2.2.2.2.2.2.2.2.2.2.2.2.2.2.2.1 q26
    refine g_tabin (pc := 1) (tgt := 228) (off := 227) hX (v := 26) q26 d_Mo_word_1 (by decide) (by decide) (by decide +kernel) (by decide) ?_
    refine g_ldc2l (pc := 228) hX d_Mo_word_228 cn_Mo_216 ?_
    exact g_lret hX hQ h d_Mo_word_231
  have h := h.2.2.2.2.2.2.2.2.2.2.2.2.2.2.2.2.2.2.2.2.2.2.2.2.2.2.2 q0 q1 q2 q3 q4 q5 q6 q7 q8 q9 q10 q11 q12 q13 q14 q15 q16 q17 q18 q19 q20 q21 q22 q23 q24 q25 q26
  refine g_tabout (pc := 1) (tgt := 232) hX (vs := [(0 : Int32), (1 : Int32), (2 : Int32), (3 : Int32), (4 : Int32), (5 : Int32), (6 : Int32), (7 : Int32), (8 : Int32), (9 : Int32), (10 : Int32), (11 : Int32), (12 : Int32), (13 : Int32), (14 : Int32), (15 : Int32), (16 : Int32), (17 : Int32), (18 : Int32), (19 : Int32), (20 : Int32), (21 : Int32), (22 : Int32), (23 : Int32), (24 : Int32), (25 : Int32), (26 : Int32)]) (List.forall_mem_cons.mpr ⟨q0, List.forall_mem_cons.mpr ⟨q1, List.forall_mem_cons.mpr ⟨q2, List.forall_mem_cons.mpr ⟨q3, List.forall_mem_cons.mpr ⟨q4, List.forall_mem_cons.mpr ⟨q5, List.forall_mem_cons.mpr ⟨q6, List.forall_mem_cons.mpr ⟨q7, List.forall_mem_cons.mpr ⟨q8, List.forall_mem_cons.mpr ⟨q9, List.forall_mem_cons.mpr ⟨q10, List.forall_mem_cons.mpr ⟨q11, List.forall_mem_cons.mpr ⟨q12, List.forall_mem_cons.mpr ⟨q13, List.forall_mem_cons.mpr ⟨q14, List.forall_mem_cons.mpr ⟨q15, List.forall_mem_cons.mpr ⟨q16, List.forall_mem_cons.mpr ⟨q17, List.forall_mem_cons.mpr ⟨q18, List.forall_mem_cons.mpr ⟨q19, List.forall_mem_cons.mpr ⟨q20, List.forall_mem_cons.mpr ⟨q21, List.forall_mem_cons.mpr ⟨q22, List.forall_mem_cons.mpr ⟨q23, List.forall_mem_cons.mpr ⟨q24, List.forall_mem_cons.mpr ⟨q25, List.forall_mem_cons.mpr ⟨q26, fun _ h9 => absurd h9 List.not_mem_nil⟩⟩⟩⟩⟩⟩⟩⟩⟩⟩⟩⟩⟩⟩⟩⟩⟩⟩⟩⟩⟩⟩⟩⟩⟩⟩⟩) d_Mo_word_1 (by decide +kernel) (by decide) ?_
  refine g_ldc2l (pc := 232) hX d_Mo_word_232 cn_Mo_218 ?_
  exact g_lret hX hQ h d_Mo_word_235
def wp_Mo_letters_c5 (K : Int32 → Mem → Prop) : Nat → Int32 → Int64 → Mem → Prop
  | 0, _, _, _ => False
  | n + 1, x3, x4, A => (((lg_cmp x4 0) = 0 → K x3 A) ∧ (¬ (lg_cmp x4 0) = 0 → wp_Mo_letters_c5 K n (x3 + 1) (x4 >>> (Int32.toInt64 8 &&& 63)) A))
def wp_Mo_letters (o : Nat) (p1 : Int64) (A : Mem) (K : Int32 → Mem → Prop) : Prop := (∃ n9 : Nat, wp_Mo_letters_c5 K n9 0 p1 A)
set_option maxRecDepth 100000 in
set_option maxHeartbeats 4000000 in
theorem k_Mo_letters_c5 {X : CXT} {E : EVT} {K : Int32 → Mem → Prop} (hX : Gd X E "BasicMachineModel" prog_14_method_12_code) (hR : Rm X 0 0) (hN : xnL X = 6) (hQ : QI X E K) : ∀ (n : Nat) (x3 : Int32) (x4 : Int64) (A : Mem), wp_Mo_letters_c5 K n x3 x4 A → G X E A 5 [(3, .int (x3)), (4, .long (x4))] [] := by
  intro n
  induction n with
  | zero => intro x3 x4 A h; exact h.elim
  | succ n ih =>
    intro x3 x4 A h
    rw [wp_Mo_letters_c5] at h
    refine g_lload (pc := 5) hX d_Mo_letters_5 1 rfl ?_
    refine g_lconst (pc := 7) (v := 0) hX d_Mo_letters_7 (by decide) ?_
    refine g_lcmp (pc := 8) hX d_Mo_letters_8 ?_
    refine g_if_eq (pc := 9) (tgt := 25) hX d_Mo_letters_9 (by decide) (fun q => ?_) (fun q => ?_)
    · have h := h.1 q
      refine g_iload_n (pc := 25) hX d_Mo_letters_25 rfl 0 rfl ?_
      exact g_iret hX hQ h d_Mo_letters_26
    · have h := h.2 q
      refine g_iinc (pc := 12) (v := (x3 + 1)) (lv0 := [(4, .long (x4))]) hX d_Mo_letters_12 0 rfl rfl (by rw [hN]; decide) (g_st1 (ks := [1]) rfl rfl) ?_
      refine g_lload (pc := 15) hX d_Mo_letters_15 1 rfl ?_
      refine g_bipush (pc := 17) (v := 8) hX d_Mo_letters_17 (by decide) ?_
      refine g_lshr (pc := 19) hX d_Mo_letters_19 ?_
      refine g_lstore (pc := 20) (lv0 := [(3, .int ((x3 + 1)))]) hX d_Mo_letters_20 (by rw [hN]; decide) (g_st2b (ks := [0]) rfl rfl rfl rfl rfl) ?_
      refine g_goto (pc := 22) (tgt := 5) hX d_Mo_letters_22 (by decide) ?_
      refine g_sub [1, 0] rfl ?_
      exact ih _ _ _ h
set_option maxRecDepth 100000 in
set_option maxHeartbeats 4000000 in
theorem c_Mo_letters (o : Nat) (p1 : Int64) (A : Mem) (K : Int32 → Mem → Prop) (h : wp_Mo_letters o p1 A K) : CtI y_Mo_letters prog_14_method_12_code 6 0 0 (fun E => [cr E o, .long (p1)]) A K := by
  refine ctI_of "BasicMachineModel" (by decide) rfl (fun E => [(0, cr E o), (1, .long (p1))]) (fun E => by simp [lg_sl, cr_cat, ca_i, ca_l, ca_d]) (fun E => by simp [lv_args, cr_cat, ca_i, ca_l, ca_d]) (fun X E hX hR hN hQ => ?_)
  unfold wp_Mo_letters at h
  refine g_iconst (pc := 0) (v := 0) hX d_Mo_letters_0 (by decide) ?_
  refine g_istore_n (pc := 1) (lv0 := [(0, cr E o), (1, .long (p1))]) hX d_Mo_letters_1 rfl (by rw [hN]; decide) (g_st1 (ks := [0, 1]) rfl rfl) ?_
  refine g_lload_n (pc := 2) hX d_Mo_letters_2 rfl 2 rfl ?_
  refine g_lstore (pc := 3) (lv0 := [(3, .int (0)), (0, cr E o), (1, .long (p1))]) hX d_Mo_letters_3 (by rw [hN]; decide) (g_st2b (ks := [0, 1, 2]) rfl rfl rfl rfl rfl) ?_
  refine g_sub [1, 0] rfl ?_
  obtain ⟨n9, h⟩ := h
  exact k_Mo_letters_c5 hX hR hN hQ n9 _ _ _ h
def wp_Mo_begins_c24 (K : Bool → Mem → Prop) : Nat → Nat → Int32 → Int64 → Int32 → Int32 → Mem → Prop
  | 0, _, _, _, _, _, _ => False
  | n + 1, x0, x2, x3, x5, x6, A => ((x2 ≤ x6 → K true A) ∧ (¬ x2 ≤ x6 → kd x0 = 9 ∧ wp_Mo_lookAt x0 x6 A (fun (r7 : Int32) (A6 : Mem) => (((lg_cmp ((x3 >>> (Int32.toInt64 (8 * ((x5 - 1) - x6)) &&& 63)) &&& 255) (Int32.toInt64 r7)) = 0 → wp_Mo_begins_c24 K n x0 x2 x3 x5 (x6 + 1) A6) ∧ (¬ (lg_cmp ((x3 >>> (Int32.toInt64 (8 * ((x5 - 1) - x6)) &&& 63)) &&& 255) (Int32.toInt64 r7)) = 0 → K false A6)))))
def wp_Mo_begins (o : Nat) (p1 : Int32) (p2 : Int32) (A : Mem) (K : Bool → Mem → Prop) : Prop := kd o = 9 ∧ wp_Mo_word o p1 A (fun (r2 : Int64) (A1 : Mem) => wp_Mo_letters o r2 A1 (fun (r5 : Int32) (A4 : Mem) => ((p2 ≤ r5 → (∃ n9 : Nat, wp_Mo_begins_c24 K n9 o p2 r2 r5 0 A4)) ∧ (¬ p2 ≤ r5 → K false A4))))
set_option maxRecDepth 100000 in
set_option maxHeartbeats 4000000 in
theorem k_Mo_begins_c24 {X : CXT} {E : EVT} {K : Bool → Mem → Prop} (hX : Gd X E "BasicMachineModel" prog_14_method_13_code) (hR : Rm X 1 25) (hN : xnL X = 7) (hQ : QZ X E K) : ∀ (n : Nat) (x0 : Nat) (x2 : Int32) (x3 : Int64) (x5 : Int32) (x6 : Int32) (A : Mem), wp_Mo_begins_c24 K n x0 x2 x3 x5 x6 A → G X E A 24 [(0, cr E x0), (2, .int (x2)), (3, .long (x3)), (5, .int (x5)), (6, .int (x6))] [] := by
  intro n
  induction n with
  | zero => intro x0 x2 x3 x5 x6 A h; exact h.elim
  | succ n ih =>
    intro x0 x2 x3 x5 x6 A h
    rw [wp_Mo_begins_c24] at h
    refine g_iload (pc := 24) hX d_Mo_begins_24 4 rfl ?_
    refine g_iload_n (pc := 26) hX d_Mo_begins_26 rfl 1 rfl ?_
    refine g_icmp_ge (pc := 27) (tgt := 65) hX d_Mo_begins_27 (by decide) (fun q => ?_) (fun q => ?_)
    · have h := h.1 q
      refine g_iconst (pc := 65) (v := 1) hX d_Mo_begins_65 (by decide) ?_
      exact g_zret hX hQ true rfl h d_Mo_begins_66
    · have h := h.2 q
      refine g_lload_n (pc := 30) hX d_Mo_begins_30 rfl 2 rfl ?_
      refine g_bipush (pc := 31) (v := 8) hX d_Mo_begins_31 (by decide) ?_
      refine g_iload (pc := 33) hX d_Mo_begins_33 3 rfl ?_
      refine g_iconst (pc := 35) (v := 1) hX d_Mo_begins_35 (by decide) ?_
      refine g_isub (pc := 36) hX d_Mo_begins_36 ?_
      refine g_iload (pc := 37) hX d_Mo_begins_37 4 rfl ?_
      refine g_isub (pc := 39) hX d_Mo_begins_39 ?_
      refine g_imul (pc := 40) hX d_Mo_begins_40 ?_
      refine g_lshr (pc := 41) hX d_Mo_begins_41 ?_
      refine g_ldc2l (pc := 42) hX d_Mo_begins_42 cn_Mo_228 ?_
      refine g_land (pc := 45) hX d_Mo_begins_45 ?_
      refine g_aload_n (pc := 46) hX d_Mo_begins_46 rfl 0 rfl ?_
      refine g_iload (pc := 47) hX d_Mo_begins_47 4 rfl ?_
      obtain ⟨f8, h⟩ := h
      refine g_callV_I (pc := 49) hX hR f8 cf9 rfl lk_Mo_230 mf_Mo_lookAt (c_Mo_lookAt _ _ _ _ h) rfl rfl rfl ⟨by decide, by decide⟩ (cat_sum _ (Nat.le_of_ble_eq_true rfl)) d_Mo_begins_49 (fun r7 A6 h => ?_)
      refine g_i2l (pc := 52) hX d_Mo_begins_52 ?_
      refine g_lcmp (pc := 53) hX d_Mo_begins_53 ?_
      refine g_if_eq (pc := 54) (tgt := 59) hX d_Mo_begins_54 (by decide) (fun q => ?_) (fun q => ?_)
      · have h := h.1 q
        refine g_iinc (pc := 59) (v := (x6 + 1)) (lv0 := [(5, .int (x5)), (0, cr E x0), (2, .int (x2)), (3, .long (x3))]) hX d_Mo_begins_59 4 rfl rfl (by rw [hN]; decide) (g_st1b (ks := [3, 0, 1, 2]) rfl rfl rfl rfl) ?_
        refine g_goto (pc := 62) (tgt := 24) hX d_Mo_begins_62 (by decide) ?_
        refine g_sub [2, 3, 4, 1, 0] rfl ?_
        exact ih _ _ _ _ _ _ h
      · have h := h.2 q
        refine g_iconst (pc := 57) (v := 0) hX d_Mo_begins_57 (by decide) ?_
        exact g_zret hX hQ false rfl h d_Mo_begins_58
set_option maxRecDepth 100000 in
set_option maxHeartbeats 4000000 in
theorem c_Mo_begins (o : Nat) (p1 : Int32) (p2 : Int32) (A : Mem) (K : Bool → Mem → Prop) (h : wp_Mo_begins o p1 p2 A K) : CtZ y_Mo_begins prog_14_method_13_code 7 1 25 (fun E => [cr E o, .int (p1), .int (p2)]) A K := by
  refine ctZ_of "BasicMachineModel" (by decide) rfl (fun E => [(0, cr E o), (1, .int (p1)), (2, .int (p2))]) (fun E => by simp [lg_sl, cr_cat, ca_i, ca_l, ca_d]) (fun E => by simp [lv_args, cr_cat, ca_i, ca_l, ca_d]) (fun X E hX hR hN hQ => ?_)
  unfold wp_Mo_begins at h
  refine g_aload_n (pc := 0) hX d_Mo_begins_0 rfl 0 rfl ?_
  refine g_iload_n (pc := 1) hX d_Mo_begins_1 rfl 1 rfl ?_
  obtain ⟨f3, h⟩ := h
  refine g_callV_J (pc := 2) hX hR f3 cf9 rfl lk_Mo_220 mf_Mo_word (c_Mo_word _ _ _ _ h) rfl rfl rfl ⟨by decide, by decide⟩ (cat_sum _ (Nat.le_of_ble_eq_true rfl)) d_Mo_begins_2 (fun r2 A1 h => ?_)
  refine g_lstore_n (pc := 5) (lv0 := [(2, .int (p2)), (0, cr E o), (1, .int (p1))]) hX d_Mo_begins_5 rfl (by rw [hN]; decide) (g_st2b (ks := [2, 0, 1]) rfl rfl rfl rfl rfl) ?_
  refine g_aload_n (pc := 6) hX d_Mo_begins_6 rfl 2 rfl ?_
  refine g_lload_n (pc := 7) hX d_Mo_begins_7 rfl 0 rfl ?_
  refine g_callV_I (pc := 8) hX hR f3 cf9 rfl lk_Mo_224 mf_Mo_letters (c_Mo_letters _ _ _ _ h) rfl rfl rfl ⟨by decide, by decide⟩ (cat_sum _ (Nat.le_of_ble_eq_true rfl)) d_Mo_begins_8 (fun r5 A4 h => ?_)
  refine g_istore (pc := 11) (lv0 := [(3, .long (r2)), (2, .int (p2)), (0, cr E o), (1, .int (p1))]) hX d_Mo_begins_11 (by rw [hN]; decide) (g_st1 (ks := [0, 1, 2, 3]) rfl rfl) ?_
  refine g_iload_n (pc := 13) hX d_Mo_begins_13 rfl 2 rfl ?_
  refine g_iload (pc := 14) hX d_Mo_begins_14 0 rfl ?_
  refine g_icmp_le (pc := 16) (tgt := 21) hX d_Mo_begins_16 (by decide) (fun q => ?_) (fun q => ?_)
  · have h := h.1 q
    refine g_iconst (pc := 21) (v := 0) hX d_Mo_begins_21 (by decide) ?_
    refine g_istore (pc := 22) (lv0 := [(5, .int (r5)), (3, .long (r2)), (2, .int (p2)), (0, cr E o), (1, .int (p1))]) hX d_Mo_begins_22 (by rw [hN]; decide) (g_st1b (ks := [0, 1, 2, 3, 4]) rfl rfl rfl rfl) ?_
    refine g_sub [4, 3, 2, 1, 0] rfl ?_
    obtain ⟨n9, h⟩ := h
    exact k_Mo_begins_c24 hX hR hN hQ n9 _ _ _ _ _ _ h
  · have h := h.2 q
    refine g_iconst (pc := 19) (v := 0) hX d_Mo_begins_19 (by decide) ?_
    exact g_zret hX hQ false rfl h d_Mo_begins_20
def wp_Mo_takeWord_c15 (J2 : Nat → Int32 → Int32 → Int32 → Mem → Prop) (K : Int32 → Mem → Prop) : Nat → Nat → Int32 → Int32 → Int32 → Int32 → Int32 → Mem → Prop
  | 0, _, _, _, _, _, _, _ => False
  | n + 1, x0, x1, x2, x3, x4, x5, A => ((x2 < x5 → ((¬ x4 = 0 → J2 x0 x1 x2 (x3 + 1) A) ∧ (x4 = 0 → kd x0 = 9 ∧ J2 x0 x1 x2 (x3 + 1) (sI (sI A x0 4 ((gI A x0 4) + (x3 - 1))) x0 7 1)))) ∧ (¬ x2 < x5 → kd x0 = 9 ∧ wp_Mo_begins x0 x5 x3 A (fun (r4 : Bool) (A3 : Mem) => ((r4 = true → wp_Mo_word x0 x5 A3 (fun (r7 : Int64) (A6 : Mem) => wp_Mo_letters x0 r7 A6 (fun (r9 : Int32) (A8 : Mem) => ((¬ r9 = x3 → wp_Mo_takeWord_c15 J2 K n x0 x1 x2 x3 1 (x5 + 1) A8) ∧ (r9 = x3 → K x5 (sI A8 x0 4 ((gI A8 x0 4) + x3))))))) ∧ (r4 = false → wp_Mo_takeWord_c15 J2 K n x0 x1 x2 x3 x4 (x5 + 1) A3)))))
def wp_Mo_takeWord_c2 (K : Int32 → Mem → Prop) : Nat → Nat → Int32 → Int32 → Int32 → Mem → Prop
  | 0, _, _, _, _, _ => False
  | n + 1, x0, x1, x2, x3, A => kd x0 = 9 ∧ ((¬ (gI A x0 7) = 0 → K (-1) A) ∧ ((gI A x0 7) = 0 → (∃ n9 : Nat, wp_Mo_takeWord_c15 (wp_Mo_takeWord_c2 K n) K n9 x0 x1 x2 x3 0 x1 A)))
def wp_Mo_takeWord (o : Nat) (p1 : Int32) (p2 : Int32) (A : Mem) (K : Int32 → Mem → Prop) : Prop := (∃ n9 : Nat, wp_Mo_takeWord_c2 K n9 o p1 p2 1 A)
set_option maxRecDepth 100000 in
set_option maxHeartbeats 4000000 in
theorem k_Mo_takeWord_c15 {X : CXT} {E : EVT} {K : Int32 → Mem → Prop} {J2 : Nat → Int32 → Int32 → Int32 → Mem → Prop} (hX : Gd X E "BasicMachineModel" prog_14_method_14_code) (hR : Rm X 2 51) (hN : xnL X = 6) (hQ : QI X E K) (hJ2 : ∀ (x0 : Nat) (x1 : Int32) (x2 : Int32) (x3 : Int32) (A : Mem), J2 x0 x1 x2 x3 A → G X E A 2 [(0, cr E x0), (1, .int (x1)), (2, .int (x2)), (3, .int (x3))] []) : ∀ (n : Nat) (x0 : Nat) (x1 : Int32) (x2 : Int32) (x3 : Int32) (x4 : Int32) (x5 : Int32) (A : Mem), wp_Mo_takeWord_c15 J2 K n x0 x1 x2 x3 x4 x5 A → G X E A 15 [(0, cr E x0), (1, .int (x1)), (2, .int (x2)), (3, .int (x3)), (4, .int (x4)), (5, .int (x5))] [] := by
  intro n
  induction n with
  | zero => intro x0 x1 x2 x3 x4 x5 A h; exact h.elim
  | succ n ih =>
    intro x0 x1 x2 x3 x4 x5 A h
    rw [wp_Mo_takeWord_c15] at h
    refine g_iload (pc := 15) hX d_Mo_takeWord_15 5 rfl ?_
    refine g_iload_n (pc := 17) hX d_Mo_takeWord_17 rfl 2 rfl ?_
    refine g_icmp_gt (pc := 18) (tgt := 70) hX d_Mo_takeWord_18 (by decide) (fun q => ?_) (fun q => ?_)
    · have h := h.1 q
      refine g_iload (pc := 70) hX d_Mo_takeWord_70 4 rfl ?_
      refine g_if_ne (pc := 72) (tgt := 92) hX d_Mo_takeWord_72 (by decide) (fun q => ?_) (fun q => ?_)
      · have h := h.1 q
        refine g_iinc (pc := 92) (v := (x3 + 1)) (lv0 := [(2, .int (x2)), (0, cr E x0), (1, .int (x1)), (4, .int (x4)), (5, .int (x5))]) hX d_Mo_takeWord_92 3 rfl rfl (by rw [hN]; decide) (g_st1b (ks := [2, 0, 1, 4, 5]) rfl rfl rfl rfl) ?_
        refine g_goto (pc := 95) (tgt := 2) hX d_Mo_takeWord_95 (by decide) ?_
        refine g_sub [2, 3, 1, 0] rfl ?_
        exact hJ2 _ _ _ _ _ h
      · have h := h.2 q
        refine g_aload_n (pc := 75) hX d_Mo_takeWord_75 rfl 0 rfl ?_
        refine g_dup (pc := 76) hX d_Mo_takeWord_76 (cr_cat _ _) ?_
        obtain ⟨f2, h⟩ := h
        refine g_getI (pc := 77) hX fl_Mo_22 rfl f2 d_Mo_takeWord_77 ?_
        refine g_iload_n (pc := 80) hX d_Mo_takeWord_80 rfl 3 rfl ?_
        refine g_iconst (pc := 81) (v := 1) hX d_Mo_takeWord_81 (by decide) ?_
        refine g_isub (pc := 82) hX d_Mo_takeWord_82 ?_
        refine g_iadd (pc := 83) hX d_Mo_takeWord_83 ?_
        refine g_putI (pc := 84) hX fl_Mo_22 rfl rfl rfl f2 d_Mo_takeWord_84 ?_
        refine g_aload_n (pc := 87) hX d_Mo_takeWord_87 rfl 0 rfl ?_
        refine g_iconst (pc := 88) (v := 1) hX d_Mo_takeWord_88 (by decide) ?_
        refine g_putZ (pc := 89) hX (Or.inr rfl) fl_Mo_31 rfl rfl rfl f2 d_Mo_takeWord_89 ?_
        refine g_iinc (pc := 92) (v := (x3 + 1)) (lv0 := [(2, .int (x2)), (0, cr E x0), (1, .int (x1)), (4, .int (x4)), (5, .int (x5))]) hX d_Mo_takeWord_92 3 rfl rfl (by rw [hN]; decide) (g_st1b (ks := [2, 0, 1, 4, 5]) rfl rfl rfl rfl) ?_
        refine g_goto (pc := 95) (tgt := 2) hX d_Mo_takeWord_95 (by decide) ?_
        refine g_sub [2, 3, 1, 0] rfl ?_
        exact hJ2 _ _ _ _ _ h
    · have h := h.2 q
      refine g_aload_n (pc := 21) hX d_Mo_takeWord_21 rfl 0 rfl ?_
      refine g_iload (pc := 22) hX d_Mo_takeWord_22 5 rfl ?_
      refine g_iload_n (pc := 24) hX d_Mo_takeWord_24 rfl 3 rfl ?_
      obtain ⟨f5, h⟩ := h
      refine g_callV_Z (pc := 25) hX hR f5 cf9 rfl lk_Mo_233 mf_Mo_begins (c_Mo_begins _ _ _ _ _ h) rfl rfl rfl ⟨by decide, by decide⟩ (cat_sum _ (Nat.le_of_ble_eq_true rfl)) d_Mo_takeWord_25 (fun r4 A3 h => ?_)
      refine g_ifB_ne (pc := 28) (tgt := 34) hX d_Mo_takeWord_28 (by decide) (fun q => ?_) (fun q => ?_)
      · have h := h.1 q
        refine g_iconst (pc := 34) (v := 1) hX d_Mo_takeWord_34 (by decide) ?_
        refine g_istore (pc := 35) (lv0 := [(3, .int (x3)), (0, cr E x0), (1, .int (x1)), (2, .int (x2)), (5, .int (x5))]) hX d_Mo_takeWord_35 (by rw [hN]; decide) (g_st1b (ks := [3, 0, 1, 2, 5]) rfl rfl rfl rfl) ?_
        refine g_aload_n (pc := 37) hX d_Mo_takeWord_37 rfl 2 rfl ?_
        refine g_aload_n (pc := 38) hX d_Mo_takeWord_38 rfl 2 rfl ?_
        refine g_iload (pc := 39) hX d_Mo_takeWord_39 5 rfl ?_
        refine g_callV_J (pc := 41) hX hR f5 cf9 rfl lk_Mo_220 mf_Mo_word (c_Mo_word _ _ _ _ h) rfl rfl rfl ⟨by decide, by decide⟩ (cat_sum _ (Nat.le_of_ble_eq_true rfl)) d_Mo_takeWord_41 (fun r7 A6 h => ?_)
        refine g_callV_I (pc := 44) hX hR f5 cf9 rfl lk_Mo_224 mf_Mo_letters (c_Mo_letters _ _ _ _ h) rfl rfl rfl ⟨by decide, by decide⟩ (cat_sum _ (Nat.le_of_ble_eq_true rfl)) d_Mo_takeWord_44 (fun r9 A8 h => ?_)
        refine g_iload_n (pc := 47) hX d_Mo_takeWord_47 rfl 1 rfl ?_
        refine g_icmp_ne (pc := 48) (tgt := 64) hX d_Mo_takeWord_48 (by decide) (fun q => ?_) (fun q => ?_)
        · have h := h.1 q
          refine g_iinc (pc := 64) (v := (x5 + 1)) (lv0 := [(4, .int (1)), (3, .int (x3)), (0, cr E x0), (1, .int (x1)), (2, .int (x2))]) hX d_Mo_takeWord_64 5 rfl rfl (by rw [hN]; decide) (g_st1b (ks := [0, 1, 2, 3, 4]) rfl rfl rfl rfl) ?_
          refine g_goto (pc := 67) (tgt := 15) hX d_Mo_takeWord_67 (by decide) ?_
          refine g_sub [3, 4, 5, 2, 1, 0] rfl ?_
          exact ih _ _ _ _ _ _ _ h
        · have h := h.2 q
          refine g_aload_n (pc := 51) hX d_Mo_takeWord_51 rfl 2 rfl ?_
          refine g_dup (pc := 52) hX d_Mo_takeWord_52 (cr_cat _ _) ?_
          refine g_getI (pc := 53) hX fl_Mo_22 rfl f5 d_Mo_takeWord_53 ?_
          refine g_iload_n (pc := 56) hX d_Mo_takeWord_56 rfl 1 rfl ?_
          refine g_iadd (pc := 57) hX d_Mo_takeWord_57 ?_
          refine g_putI (pc := 58) hX fl_Mo_22 rfl rfl rfl f5 d_Mo_takeWord_58 ?_
          refine g_iload (pc := 61) hX d_Mo_takeWord_61 5 rfl ?_
          exact g_iret hX hQ h d_Mo_takeWord_63
      · have h := h.2 q
        refine g_goto (pc := 31) (tgt := 64) hX d_Mo_takeWord_31 (by decide) ?_
        refine g_iinc (pc := 64) (v := (x5 + 1)) (lv0 := [(4, .int (x4)), (0, cr E x0), (1, .int (x1)), (2, .int (x2)), (3, .int (x3))]) hX d_Mo_takeWord_64 5 rfl rfl (by rw [hN]; decide) (g_st1b (ks := [4, 0, 1, 2, 3]) rfl rfl rfl rfl) ?_
        refine g_goto (pc := 67) (tgt := 15) hX d_Mo_takeWord_67 (by decide) ?_
        refine g_sub [2, 3, 4, 5, 1, 0] rfl ?_
        exact ih _ _ _ _ _ _ _ h
set_option maxRecDepth 100000 in
set_option maxHeartbeats 4000000 in
theorem k_Mo_takeWord_c2 {X : CXT} {E : EVT} {K : Int32 → Mem → Prop} (hX : Gd X E "BasicMachineModel" prog_14_method_14_code) (hR : Rm X 2 51) (hN : xnL X = 6) (hQ : QI X E K) : ∀ (n : Nat) (x0 : Nat) (x1 : Int32) (x2 : Int32) (x3 : Int32) (A : Mem), wp_Mo_takeWord_c2 K n x0 x1 x2 x3 A → G X E A 2 [(0, cr E x0), (1, .int (x1)), (2, .int (x2)), (3, .int (x3))] [] := by
  intro n
  induction n with
  | zero => intro x0 x1 x2 x3 A h; exact h.elim
  | succ n ih =>
    intro x0 x1 x2 x3 A h
    rw [wp_Mo_takeWord_c2] at h
    refine g_aload_n (pc := 2) hX d_Mo_takeWord_2 rfl 0 rfl ?_
    obtain ⟨f1, h⟩ := h
    refine g_getI (pc := 3) hX fl_Mo_31 rfl f1 d_Mo_takeWord_3 ?_
    refine g_if_ne (pc := 6) (tgt := 98) hX d_Mo_takeWord_6 (by decide) (fun q => ?_) (fun q => ?_)
    · have h := h.1 q
      refine g_iconst (pc := 98) (v := (-1)) hX d_Mo_takeWord_98 (by decide) ?_
      exact g_iret hX hQ h d_Mo_takeWord_99
    · have h := h.2 q
      refine g_iconst (pc := 9) (v := 0) hX d_Mo_takeWord_9 (by decide) ?_
      refine g_istore (pc := 10) (lv0 := [(3, .int (x3)), (0, cr E x0), (1, .int (x1)), (2, .int (x2))]) hX d_Mo_takeWord_10 (by rw [hN]; decide) (g_st1b (ks := [3, 0, 1, 2]) rfl rfl rfl rfl) ?_
      refine g_iload_n (pc := 12) hX d_Mo_takeWord_12 rfl 3 rfl ?_
      refine g_istore (pc := 13) (lv0 := [(4, .int (0)), (3, .int (x3)), (0, cr E x0), (1, .int (x1)), (2, .int (x2))]) hX d_Mo_takeWord_13 (by rw [hN]; decide) (g_st1b (ks := [0, 1, 2, 3, 4]) rfl rfl rfl rfl) ?_
      refine g_sub [3, 4, 5, 2, 1, 0] rfl ?_
      obtain ⟨n9, h⟩ := h
      exact k_Mo_takeWord_c15 hX hR hN hQ ih n9 _ _ _ _ _ _ _ h
set_option maxRecDepth 100000 in
set_option maxHeartbeats 4000000 in
theorem c_Mo_takeWord (o : Nat) (p1 : Int32) (p2 : Int32) (A : Mem) (K : Int32 → Mem → Prop) (h : wp_Mo_takeWord o p1 p2 A K) : CtI y_Mo_takeWord prog_14_method_14_code 6 2 51 (fun E => [cr E o, .int (p1), .int (p2)]) A K := by
  refine ctI_of "BasicMachineModel" (by decide) rfl (fun E => [(0, cr E o), (1, .int (p1)), (2, .int (p2))]) (fun E => by simp [lg_sl, cr_cat, ca_i, ca_l, ca_d]) (fun E => by simp [lv_args, cr_cat, ca_i, ca_l, ca_d]) (fun X E hX hR hN hQ => ?_)
  unfold wp_Mo_takeWord at h
  refine g_iconst (pc := 0) (v := 1) hX d_Mo_takeWord_0 (by decide) ?_
  refine g_istore_n (pc := 1) (lv0 := [(2, .int (p2)), (0, cr E o), (1, .int (p1))]) hX d_Mo_takeWord_1 rfl (by rw [hN]; decide) (g_st1b (ks := [2, 0, 1]) rfl rfl rfl rfl) ?_
  refine g_sub [2, 3, 1, 0] rfl ?_
  obtain ⟨n9, h⟩ := h
  exact k_Mo_takeWord_c2 hX hR hN hQ n9 _ _ _ _ _ h
def wp_Mo_lineNumber_c43 (J13 : Nat → Int32 → Int32 → Mem → Prop) (K : Int32 → Mem → Prop) (x0 : Nat) (x1 : Int32) (x2 : Int32) (A : Mem) : Prop := kd x0 = 9 ∧ wp_Mo_look x0 A (fun (r9 : Int32) (A8 : Mem) => J13 x0 (((x1 * 10) + r9) - 48) (x2 + 1) (sI A8 x0 4 ((gI A8 x0 4) + 1)))
def wp_Mo_lineNumber_c13 (K : Int32 → Mem → Prop) : Nat → Nat → Int32 → Int32 → Mem → Prop
  | 0, _, _, _, _ => False
  | n + 1, x0, x1, x2, A => ((3 ≤ x2 → ((¬ x1 = 0 → K x1 A) ∧ (x1 = 0 → kd x0 = 9 ∧ K x1 (sI A x0 7 1)))) ∧ (¬ 3 ≤ x2 → kd x0 = 9 ∧ wp_Mo_isDigit x0 A (fun (r4 : Bool) (A3 : Mem) => ((r4 = false → ((¬ x1 = 0 → K x1 A3) ∧ (x1 = 0 → K x1 (sI A3 x0 7 1)))) ∧ (r4 = true → ((¬ x2 = 2 → wp_Mo_lineNumber_c43 (wp_Mo_lineNumber_c13 K n) K x0 x1 x2 A3) ∧ (x2 = 2 → ((¬ x1 = 0 → wp_Mo_lineNumber_c43 (wp_Mo_lineNumber_c13 K n) K x0 x1 x2 A3) ∧ (x1 = 0 → wp_Mo_look x0 A3 (fun (r7 : Int32) (A6 : Mem) => ((r7 = 48 → ((¬ x1 = 0 → K x1 A6) ∧ (x1 = 0 → K x1 (sI A6 x0 7 1)))) ∧ (¬ r7 = 48 → wp_Mo_lineNumber_c43 (wp_Mo_lineNumber_c13 K n) K x0 x1 x2 A6))))))))))))
def wp_Mo_lineNumber (o : Nat) (A : Mem) (K : Int32 → Mem → Prop) : Prop := kd o = 9 ∧ (((gI A o 7) = 0 → (∃ n9 : Nat, wp_Mo_lineNumber_c13 K n9 o 0 0 A)) ∧ (¬ (gI A o 7) = 0 → K 0 A))
set_option maxRecDepth 100000 in
set_option maxHeartbeats 4000000 in
theorem k_Mo_lineNumber_c43 {X : CXT} {E : EVT} {K : Int32 → Mem → Prop} {J13 : Nat → Int32 → Int32 → Mem → Prop} (hX : Gd X E "BasicMachineModel" prog_14_method_15_code) (hR : Rm X 2 40) (hN : xnL X = 3) (hQ : QI X E K) (hJ13 : ∀ (x0 : Nat) (x1 : Int32) (x2 : Int32) (A : Mem), J13 x0 x1 x2 A → G X E A 13 [(0, cr E x0), (1, .int (x1)), (2, .int (x2))] []) (x0 : Nat) (x1 : Int32) (x2 : Int32) (A : Mem) (h : wp_Mo_lineNumber_c43 J13 K x0 x1 x2 A) : G X E A 43 [(0, cr E x0), (1, .int (x1)), (2, .int (x2))] [] := by
  unfold wp_Mo_lineNumber_c43 at h
  refine g_iload_n (pc := 43) hX d_Mo_lineNumber_43 rfl 1 rfl ?_
  refine g_bipush (pc := 44) (v := 10) hX d_Mo_lineNumber_44 (by decide) ?_
  refine g_imul (pc := 46) hX d_Mo_lineNumber_46 ?_
  refine g_aload_n (pc := 47) hX d_Mo_lineNumber_47 rfl 0 rfl ?_
  obtain ⟨f10, h⟩ := h
  refine g_callV_I (pc := 48) hX hR f10 cf9 rfl lk_Mo_156 mf_Mo_look (c_Mo_look _ _ _ h) rfl rfl rfl ⟨by decide, by decide⟩ (cat_sum _ (Nat.le_of_ble_eq_true rfl)) d_Mo_lineNumber_48 (fun r9 A8 h => ?_)
  refine g_iadd (pc := 51) hX d_Mo_lineNumber_51 ?_
  refine g_bipush (pc := 52) (v := 48) hX d_Mo_lineNumber_52 (by decide) ?_
  refine g_isub (pc := 54) hX d_Mo_lineNumber_54 ?_
  refine g_istore_n (pc := 55) (lv0 := [(0, cr E x0), (2, .int (x2))]) hX d_Mo_lineNumber_55 rfl (by rw [hN]; decide) (g_st1b (ks := [0, 2]) rfl (cr_cat _ _) rfl rfl) ?_
  refine g_aload_n (pc := 56) hX d_Mo_lineNumber_56 rfl 1 rfl ?_
  refine g_dup (pc := 57) hX d_Mo_lineNumber_57 (cr_cat _ _) ?_
  refine g_getI (pc := 58) hX fl_Mo_22 rfl f10 d_Mo_lineNumber_58 ?_
  refine g_iconst (pc := 61) (v := 1) hX d_Mo_lineNumber_61 (by decide) ?_
  refine g_iadd (pc := 62) hX d_Mo_lineNumber_62 ?_
  refine g_putI (pc := 63) hX fl_Mo_22 rfl rfl rfl f10 d_Mo_lineNumber_63 ?_
  refine g_iinc (pc := 66) (v := (x2 + 1)) (lv0 := [(1, .int ((((x1 * 10) + r9) - 48))), (0, cr E x0)]) hX d_Mo_lineNumber_66 2 rfl rfl (by rw [hN]; decide) (g_st1b (ks := [0, 1]) rfl rfl rfl rfl) ?_
  refine g_goto (pc := 69) (tgt := 13) hX d_Mo_lineNumber_69 (by decide) ?_
  refine g_sub [2, 1, 0] rfl ?_
  exact hJ13 _ _ _ _ h
set_option maxRecDepth 100000 in
set_option maxHeartbeats 4000000 in
theorem k_Mo_lineNumber_c13 {X : CXT} {E : EVT} {K : Int32 → Mem → Prop} (hX : Gd X E "BasicMachineModel" prog_14_method_15_code) (hR : Rm X 2 40) (hN : xnL X = 3) (hQ : QI X E K) : ∀ (n : Nat) (x0 : Nat) (x1 : Int32) (x2 : Int32) (A : Mem), wp_Mo_lineNumber_c13 K n x0 x1 x2 A → G X E A 13 [(0, cr E x0), (1, .int (x1)), (2, .int (x2))] [] := by
  intro n
  induction n with
  | zero => intro x0 x1 x2 A h; exact h.elim
  | succ n ih =>
    intro x0 x1 x2 A h
    rw [wp_Mo_lineNumber_c13] at h
    refine g_iload_n (pc := 13) hX d_Mo_lineNumber_13 rfl 2 rfl ?_
    refine g_iconst (pc := 14) (v := 3) hX d_Mo_lineNumber_14 (by decide) ?_
    refine g_icmp_ge (pc := 15) (tgt := 72) hX d_Mo_lineNumber_15 (by decide) (fun q => ?_) (fun q => ?_)
    · have h := h.1 q
      refine g_iload_n (pc := 72) hX d_Mo_lineNumber_72 rfl 1 rfl ?_
      refine g_if_ne (pc := 73) (tgt := 81) hX d_Mo_lineNumber_73 (by decide) (fun q => ?_) (fun q => ?_)
      · have h := h.1 q
        refine g_iload_n (pc := 81) hX d_Mo_lineNumber_81 rfl 1 rfl ?_
        exact g_iret hX hQ h d_Mo_lineNumber_82
      · have h := h.2 q
        refine g_aload_n (pc := 76) hX d_Mo_lineNumber_76 rfl 0 rfl ?_
        refine g_iconst (pc := 77) (v := 1) hX d_Mo_lineNumber_77 (by decide) ?_
        obtain ⟨f2, h⟩ := h
        refine g_putZ (pc := 78) hX (Or.inr rfl) fl_Mo_31 rfl rfl rfl f2 d_Mo_lineNumber_78 ?_
        refine g_iload_n (pc := 81) hX d_Mo_lineNumber_81 rfl 1 rfl ?_
        exact g_iret hX hQ h d_Mo_lineNumber_82
    · have h := h.2 q
      refine g_aload_n (pc := 18) hX d_Mo_lineNumber_18 rfl 0 rfl ?_
      obtain ⟨f5, h⟩ := h
      refine g_callV_Z (pc := 19) hX hR f5 cf9 rfl lk_Mo_237 mf_Mo_isDigit (c_Mo_isDigit _ _ _ h) rfl rfl rfl ⟨by decide, by decide⟩ (cat_sum _ (Nat.le_of_ble_eq_true rfl)) d_Mo_lineNumber_19 (fun r4 A3 h => ?_)
      refine g_ifB_eq (pc := 22) (tgt := 72) hX d_Mo_lineNumber_22 (by decide) (fun q => ?_) (fun q => ?_)
      · have h := h.1 q
        refine g_iload_n (pc := 72) hX d_Mo_lineNumber_72 rfl 1 rfl ?_
        refine g_if_ne (pc := 73) (tgt := 81) hX d_Mo_lineNumber_73 (by decide) (fun q => ?_) (fun q => ?_)
        · have h := h.1 q
          refine g_iload_n (pc := 81) hX d_Mo_lineNumber_81 rfl 1 rfl ?_
          exact g_iret hX hQ h d_Mo_lineNumber_82
        · have h := h.2 q
          refine g_aload_n (pc := 76) hX d_Mo_lineNumber_76 rfl 0 rfl ?_
          refine g_iconst (pc := 77) (v := 1) hX d_Mo_lineNumber_77 (by decide) ?_
          refine g_putZ (pc := 78) hX (Or.inr rfl) fl_Mo_31 rfl rfl rfl f5 d_Mo_lineNumber_78 ?_
          refine g_iload_n (pc := 81) hX d_Mo_lineNumber_81 rfl 1 rfl ?_
          exact g_iret hX hQ h d_Mo_lineNumber_82
      · have h := h.2 q
        refine g_iload_n (pc := 25) hX d_Mo_lineNumber_25 rfl 2 rfl ?_
        refine g_iconst (pc := 26) (v := 2) hX d_Mo_lineNumber_26 (by decide) ?_
        refine g_icmp_ne (pc := 27) (tgt := 43) hX d_Mo_lineNumber_27 (by decide) (fun q => ?_) (fun q => ?_)
        · have h := h.1 q
          refine g_sub [0, 1, 2] rfl ?_
          exact k_Mo_lineNumber_c43 hX hR hN hQ ih _ _ _ _ h
        · have h := h.2 q
          refine g_iload_n (pc := 30) hX d_Mo_lineNumber_30 rfl 1 rfl ?_
          refine g_if_ne (pc := 31) (tgt := 43) hX d_Mo_lineNumber_31 (by decide) (fun q => ?_) (fun q => ?_)
          · have h := h.1 q
            refine g_sub [0, 1, 2] rfl ?_
            exact k_Mo_lineNumber_c43 hX hR hN hQ ih _ _ _ _ h
          · have h := h.2 q
            refine g_aload_n (pc := 34) hX d_Mo_lineNumber_34 rfl 0 rfl ?_
            refine g_callV_I (pc := 35) hX hR f5 cf9 rfl lk_Mo_156 mf_Mo_look (c_Mo_look _ _ _ h) rfl rfl rfl ⟨by decide, by decide⟩ (cat_sum _ (Nat.le_of_ble_eq_true rfl)) d_Mo_lineNumber_35 (fun r7 A6 h => ?_)
            refine g_bipush (pc := 38) (v := 48) hX d_Mo_lineNumber_38 (by decide) ?_
            refine g_icmp_eq (pc := 40) (tgt := 72) hX d_Mo_lineNumber_40 (by decide) (fun q => ?_) (fun q => ?_)
            · have h := h.1 q
              refine g_iload_n (pc := 72) hX d_Mo_lineNumber_72 rfl 1 rfl ?_
              refine g_if_ne (pc := 73) (tgt := 81) hX d_Mo_lineNumber_73 (by decide) (fun q => ?_) (fun q => ?_)
              · have h := h.1 q
                refine g_iload_n (pc := 81) hX d_Mo_lineNumber_81 rfl 1 rfl ?_
                exact g_iret hX hQ h d_Mo_lineNumber_82
              · have h := h.2 q
                refine g_aload_n (pc := 76) hX d_Mo_lineNumber_76 rfl 0 rfl ?_
                refine g_iconst (pc := 77) (v := 1) hX d_Mo_lineNumber_77 (by decide) ?_
                refine g_putZ (pc := 78) hX (Or.inr rfl) fl_Mo_31 rfl rfl rfl f5 d_Mo_lineNumber_78 ?_
                refine g_iload_n (pc := 81) hX d_Mo_lineNumber_81 rfl 1 rfl ?_
                exact g_iret hX hQ h d_Mo_lineNumber_82
            · have h := h.2 q
              refine g_sub [0, 1, 2] rfl ?_
              exact k_Mo_lineNumber_c43 hX hR hN hQ ih _ _ _ _ h
set_option maxRecDepth 100000 in
set_option maxHeartbeats 4000000 in
theorem c_Mo_lineNumber (o : Nat) (A : Mem) (K : Int32 → Mem → Prop) (h : wp_Mo_lineNumber o A K) : CtI y_Mo_lineNumber prog_14_method_15_code 3 2 40 (fun E => [cr E o]) A K := by
  refine ctI_of "BasicMachineModel" (by decide) rfl (fun E => [(0, cr E o)]) (fun E => by simp [lg_sl, cr_cat, ca_i, ca_l, ca_d]) (fun E => by simp [lv_args, cr_cat, ca_i, ca_l, ca_d]) (fun X E hX hR hN hQ => ?_)
  unfold wp_Mo_lineNumber at h
  refine g_iconst (pc := 0) (v := 0) hX d_Mo_lineNumber_0 (by decide) ?_
  refine g_istore_n (pc := 1) (lv0 := [(0, cr E o)]) hX d_Mo_lineNumber_1 rfl (by rw [hN]; decide) (g_st1b (ks := [0]) rfl (cr_cat _ _) rfl rfl) ?_
  refine g_iconst (pc := 2) (v := 0) hX d_Mo_lineNumber_2 (by decide) ?_
  refine g_istore_n (pc := 3) (lv0 := [(1, .int (0)), (0, cr E o)]) hX d_Mo_lineNumber_3 rfl (by rw [hN]; decide) (g_st1b (ks := [0, 1]) rfl rfl rfl rfl) ?_
  refine g_aload_n (pc := 4) hX d_Mo_lineNumber_4 rfl 2 rfl ?_
  obtain ⟨f1, h⟩ := h
  refine g_getI (pc := 5) hX fl_Mo_31 rfl f1 d_Mo_lineNumber_5 ?_
  refine g_if_eq (pc := 8) (tgt := 13) hX d_Mo_lineNumber_8 (by decide) (fun q => ?_) (fun q => ?_)
  · have h := h.1 q
    refine g_sub [2, 1, 0] rfl ?_
    obtain ⟨n9, h⟩ := h
    exact k_Mo_lineNumber_c13 hX hR hN hQ n9 _ _ _ _ h
  · have h := h.2 q
    refine g_iconst (pc := 11) (v := 0) hX d_Mo_lineNumber_11 (by decide) ?_
    exact g_iret hX hQ h d_Mo_lineNumber_12
def wp_Mo_make (o : Nat) (p1 : Int32) (A : Mem) (K : Mem → Prop) : Prop := kd o = 9 ∧ kd (gR A o 14) = 51 ∧ vp_in (3840 + (gI A o 6)) (al (gR A o 14)) ∧ ∀ A4 : Mem, A4 = (sI (sI A (gR A o 14) (Int32.toNatClampNeg (3840 + (gI A o 6))) p1) o 6 ((gI (sI A (gR A o 14) (Int32.toNatClampNeg (3840 + (gI A o 6))) p1) o 6) + 1)) → K A4
set_option maxRecDepth 100000 in
set_option maxHeartbeats 4000000 in
theorem c_Mo_make (o : Nat) (p1 : Int32) (A : Mem) (K : Mem → Prop) (h : wp_Mo_make o p1 A K) : CtV y_Mo_make prog_14_method_16_code 2 0 0 (fun E => [cr E o, .int (p1)]) A K := by
  refine ctV_of "BasicMachineModel" (by decide) rfl (fun E => [(0, cr E o), (1, .int (p1))]) (fun E => by simp [lg_sl, cr_cat, ca_i, ca_l, ca_d]) (fun E => by simp [lv_args, cr_cat, ca_i, ca_l, ca_d]) (fun X E hX hR hN hQ => ?_)
  unfold wp_Mo_make at h
  refine g_aload_n (pc := 0) hX d_Mo_make_0 rfl 0 rfl ?_
  obtain ⟨f1, h⟩ := h
  refine g_getR (pc := 1) hX fl_Mo_55 rfl f1 d_Mo_make_1 ?_
  refine g_sipush (pc := 4) (v := 3840) hX d_Mo_make_4 (by decide) ?_
  refine g_aload_n (pc := 7) hX d_Mo_make_7 rfl 0 rfl ?_
  refine g_getI (pc := 8) hX fl_Mo_28 rfl f1 d_Mo_make_8 ?_
  refine g_iadd (pc := 11) hX d_Mo_make_11 ?_
  refine g_iload_n (pc := 12) hX d_Mo_make_12 rfl 1 rfl ?_
  obtain ⟨f2, h⟩ := h
  obtain ⟨f3, h⟩ := h
  refine g_iastore (pc := 13) hX f2 f3 d_Mo_make_13 ?_
  refine g_aload_n (pc := 14) hX d_Mo_make_14 rfl 0 rfl ?_
  refine g_dup (pc := 15) hX d_Mo_make_15 (cr_cat _ _) ?_
  refine g_getI (pc := 16) hX fl_Mo_28 rfl f1 d_Mo_make_16 ?_
  refine g_iconst (pc := 19) (v := 1) hX d_Mo_make_19 (by decide) ?_
  refine g_iadd (pc := 20) hX d_Mo_make_20 ?_
  refine g_putI (pc := 21) hX fl_Mo_28 rfl rfl rfl f1 d_Mo_make_21 ?_
  refine g_nm (fun A4 eA4 => ?_)
  have h := h A4 eA4
  exact g_vret hX hQ h d_Mo_make_24
def wp_Mo_isMatrix (o : Nat) (p1 : Int32) (A : Mem) (K : Bool → Mem → Prop) : Prop := ((p1 < 80 → K false A) ∧ (¬ p1 < 80 → ((82 < p1 → K false A) ∧ (¬ 82 < p1 → K true A))))
set_option maxRecDepth 100000 in
set_option maxHeartbeats 4000000 in
theorem c_Mo_isMatrix (o : Nat) (p1 : Int32) (A : Mem) (K : Bool → Mem → Prop) (h : wp_Mo_isMatrix o p1 A K) : CtZ y_Mo_isMatrix prog_14_method_17_code 2 0 0 (fun E => [cr E o, .int (p1)]) A K := by
  refine ctZ_of "BasicMachineModel" (by decide) rfl (fun E => [(0, cr E o), (1, .int (p1))]) (fun E => by simp [lg_sl, cr_cat, ca_i, ca_l, ca_d]) (fun E => by simp [lv_args, cr_cat, ca_i, ca_l, ca_d]) (fun X E hX hR hN hQ => ?_)
  unfold wp_Mo_isMatrix at h
  refine g_iload_n (pc := 0) hX d_Mo_isMatrix_0 rfl 1 rfl ?_
  refine g_bipush (pc := 1) (v := 80) hX d_Mo_isMatrix_1 (by decide) ?_
  refine g_icmp_lt (pc := 3) (tgt := 16) hX d_Mo_isMatrix_3 (by decide) (fun q => ?_) (fun q => ?_)
  · have h := h.1 q
    refine g_iconst (pc := 16) (v := 0) hX d_Mo_isMatrix_16 (by decide) ?_
    exact g_zret hX hQ false rfl h d_Mo_isMatrix_17
  · have h := h.2 q
    refine g_iload_n (pc := 6) hX d_Mo_isMatrix_6 rfl 1 rfl ?_
    refine g_bipush (pc := 7) (v := 82) hX d_Mo_isMatrix_7 (by decide) ?_
    refine g_icmp_gt (pc := 9) (tgt := 16) hX d_Mo_isMatrix_9 (by decide) (fun q => ?_) (fun q => ?_)
    · have h := h.1 q
      refine g_iconst (pc := 16) (v := 0) hX d_Mo_isMatrix_16 (by decide) ?_
      exact g_zret hX hQ false rfl h d_Mo_isMatrix_17
    · have h := h.2 q
      refine g_iconst (pc := 12) (v := 1) hX d_Mo_isMatrix_12 (by decide) ?_
      refine g_goto (pc := 13) (tgt := 17) hX d_Mo_isMatrix_13 (by decide) ?_
      exact g_zret hX hQ true rfl h d_Mo_isMatrix_17
def wp_Mo_variable0 (o : Nat) (A : Mem) (K : Int32 → Mem → Prop) : Prop := kd o = 9 ∧ wp_Mo_look o A (fun (r2 : Int32) (A1 : Mem) => ((¬ (gI A1 o 7) = 0 → K 0 (sI A1 o 7 1)) ∧ ((gI A1 o 7) = 0 → ((r2 < 65 → K 0 (sI A1 o 7 1)) ∧ (¬ r2 < 65 → ((90 < r2 → K 0 (sI A1 o 7 1)) ∧ (¬ 90 < r2 → wp_Mo_isMatrix o r2 A1 (fun (r5 : Bool) (A4 : Mem) => ((r5 = false → K (r2 - 65) (sI A4 o 4 ((gI A4 o 4) + 1))) ∧ (r5 = true → K 0 (sI A4 o 7 1)))))))))))
set_option maxRecDepth 100000 in
set_option maxHeartbeats 4000000 in
theorem c_Mo_variable0 (o : Nat) (A : Mem) (K : Int32 → Mem → Prop) (h : wp_Mo_variable0 o A K) : CtI y_Mo_variable0 prog_14_method_18_code 2 1 21 (fun E => [cr E o]) A K := by
  refine ctI_of "BasicMachineModel" (by decide) rfl (fun E => [(0, cr E o)]) (fun E => by simp [lg_sl, cr_cat, ca_i, ca_l, ca_d]) (fun E => by simp [lv_args, cr_cat, ca_i, ca_l, ca_d]) (fun X E hX hR hN hQ => ?_)
  unfold wp_Mo_variable0 at h
  refine g_aload_n (pc := 0) hX d_Mo_variable0_0 rfl 0 rfl ?_
  obtain ⟨f3, h⟩ := h
  refine g_callV_I (pc := 1) hX hR f3 cf9 rfl lk_Mo_156 mf_Mo_look (c_Mo_look _ _ _ h) rfl rfl rfl ⟨by decide, by decide⟩ (cat_sum _ (Nat.le_of_ble_eq_true rfl)) d_Mo_variable0_1 (fun r2 A1 h => ?_)
  refine g_istore_n (pc := 4) (lv0 := [(0, cr E o)]) hX d_Mo_variable0_4 rfl (by rw [hN]; decide) (g_st1b (ks := [0]) rfl (cr_cat _ _) rfl rfl) ?_
  refine g_aload_n (pc := 5) hX d_Mo_variable0_5 rfl 1 rfl ?_
  refine g_getI (pc := 6) hX fl_Mo_31 rfl f3 d_Mo_variable0_6 ?_
  refine g_if_ne (pc := 9) (tgt := 32) hX d_Mo_variable0_9 (by decide) (fun q => ?_) (fun q => ?_)
  · have h := h.1 q
    refine g_aload_n (pc := 32) hX d_Mo_variable0_32 rfl 1 rfl ?_
    refine g_iconst (pc := 33) (v := 1) hX d_Mo_variable0_33 (by decide) ?_
    refine g_putZ (pc := 34) hX (Or.inr rfl) fl_Mo_31 rfl rfl rfl f3 d_Mo_variable0_34 ?_
    refine g_iconst (pc := 37) (v := 0) hX d_Mo_variable0_37 (by decide) ?_
    exact g_iret hX hQ h d_Mo_variable0_38
  · have h := h.2 q
    refine g_iload_n (pc := 12) hX d_Mo_variable0_12 rfl 0 rfl ?_
    refine g_bipush (pc := 13) (v := 65) hX d_Mo_variable0_13 (by decide) ?_
    refine g_icmp_lt (pc := 15) (tgt := 32) hX d_Mo_variable0_15 (by decide) (fun q => ?_) (fun q => ?_)
    · have h := h.1 q
      refine g_aload_n (pc := 32) hX d_Mo_variable0_32 rfl 1 rfl ?_
      refine g_iconst (pc := 33) (v := 1) hX d_Mo_variable0_33 (by decide) ?_
      refine g_putZ (pc := 34) hX (Or.inr rfl) fl_Mo_31 rfl rfl rfl f3 d_Mo_variable0_34 ?_
      refine g_iconst (pc := 37) (v := 0) hX d_Mo_variable0_37 (by decide) ?_
      exact g_iret hX hQ h d_Mo_variable0_38
    · have h := h.2 q
      refine g_iload_n (pc := 18) hX d_Mo_variable0_18 rfl 0 rfl ?_
      refine g_bipush (pc := 19) (v := 90) hX d_Mo_variable0_19 (by decide) ?_
      refine g_icmp_gt (pc := 21) (tgt := 32) hX d_Mo_variable0_21 (by decide) (fun q => ?_) (fun q => ?_)
      · have h := h.1 q
        refine g_aload_n (pc := 32) hX d_Mo_variable0_32 rfl 1 rfl ?_
        refine g_iconst (pc := 33) (v := 1) hX d_Mo_variable0_33 (by decide) ?_
        refine g_putZ (pc := 34) hX (Or.inr rfl) fl_Mo_31 rfl rfl rfl f3 d_Mo_variable0_34 ?_
        refine g_iconst (pc := 37) (v := 0) hX d_Mo_variable0_37 (by decide) ?_
        exact g_iret hX hQ h d_Mo_variable0_38
      · have h := h.2 q
        refine g_aload_n (pc := 24) hX d_Mo_variable0_24 rfl 1 rfl ?_
        refine g_iload_n (pc := 25) hX d_Mo_variable0_25 rfl 0 rfl ?_
        refine g_callV_Z (pc := 26) hX hR f3 cf9 rfl lk_Mo_241 mf_Mo_isMatrix (c_Mo_isMatrix _ _ _ _ h) rfl rfl rfl ⟨by decide, by decide⟩ (cat_sum _ (Nat.le_of_ble_eq_true rfl)) d_Mo_variable0_26 (fun r5 A4 h => ?_)
        refine g_ifB_eq (pc := 29) (tgt := 39) hX d_Mo_variable0_29 (by decide) (fun q => ?_) (fun q => ?_)
        · have h := h.1 q
          refine g_aload_n (pc := 39) hX d_Mo_variable0_39 rfl 1 rfl ?_
          refine g_dup (pc := 40) hX d_Mo_variable0_40 (cr_cat _ _) ?_
          refine g_getI (pc := 41) hX fl_Mo_22 rfl f3 d_Mo_variable0_41 ?_
          refine g_iconst (pc := 44) (v := 1) hX d_Mo_variable0_44 (by decide) ?_
          refine g_iadd (pc := 45) hX d_Mo_variable0_45 ?_
          refine g_putI (pc := 46) hX fl_Mo_22 rfl rfl rfl f3 d_Mo_variable0_46 ?_
          refine g_iload_n (pc := 49) hX d_Mo_variable0_49 rfl 0 rfl ?_
          refine g_bipush (pc := 50) (v := 65) hX d_Mo_variable0_50 (by decide) ?_
          refine g_isub (pc := 52) hX d_Mo_variable0_52 ?_
          exact g_iret hX hQ h d_Mo_variable0_53
        · have h := h.2 q
          refine g_aload_n (pc := 32) hX d_Mo_variable0_32 rfl 1 rfl ?_
          refine g_iconst (pc := 33) (v := 1) hX d_Mo_variable0_33 (by decide) ?_
          refine g_putZ (pc := 34) hX (Or.inr rfl) fl_Mo_31 rfl rfl rfl f3 d_Mo_variable0_34 ?_
          refine g_iconst (pc := 37) (v := 0) hX d_Mo_variable0_37 (by decide) ?_
          exact g_iret hX hQ h d_Mo_variable0_38
def wp_Mo_matrix (o : Nat) (A : Mem) (K : Int32 → Mem → Prop) : Prop := kd o = 9 ∧ wp_Mo_look o A (fun (r2 : Int32) (A1 : Mem) => ((¬ (gI A1 o 7) = 0 → K 0 (sI A1 o 7 1)) ∧ ((gI A1 o 7) = 0 → wp_Mo_isMatrix o r2 A1 (fun (r5 : Bool) (A4 : Mem) => ((r5 = true → K (r2 - 80) (sI A4 o 4 ((gI A4 o 4) + 1))) ∧ (r5 = false → K 0 (sI A4 o 7 1)))))))
set_option maxRecDepth 100000 in
set_option maxHeartbeats 4000000 in
theorem c_Mo_matrix (o : Nat) (A : Mem) (K : Int32 → Mem → Prop) (h : wp_Mo_matrix o A K) : CtI y_Mo_matrix prog_14_method_19_code 2 1 21 (fun E => [cr E o]) A K := by
  refine ctI_of "BasicMachineModel" (by decide) rfl (fun E => [(0, cr E o)]) (fun E => by simp [lg_sl, cr_cat, ca_i, ca_l, ca_d]) (fun E => by simp [lv_args, cr_cat, ca_i, ca_l, ca_d]) (fun X E hX hR hN hQ => ?_)
  unfold wp_Mo_matrix at h
  refine g_aload_n (pc := 0) hX d_Mo_matrix_0 rfl 0 rfl ?_
  obtain ⟨f3, h⟩ := h
  refine g_callV_I (pc := 1) hX hR f3 cf9 rfl lk_Mo_156 mf_Mo_look (c_Mo_look _ _ _ h) rfl rfl rfl ⟨by decide, by decide⟩ (cat_sum _ (Nat.le_of_ble_eq_true rfl)) d_Mo_matrix_1 (fun r2 A1 h => ?_)
  refine g_istore_n (pc := 4) (lv0 := [(0, cr E o)]) hX d_Mo_matrix_4 rfl (by rw [hN]; decide) (g_st1b (ks := [0]) rfl (cr_cat _ _) rfl rfl) ?_
  refine g_aload_n (pc := 5) hX d_Mo_matrix_5 rfl 1 rfl ?_
  refine g_getI (pc := 6) hX fl_Mo_31 rfl f3 d_Mo_matrix_6 ?_
  refine g_if_ne (pc := 9) (tgt := 20) hX d_Mo_matrix_9 (by decide) (fun q => ?_) (fun q => ?_)
  · have h := h.1 q
    refine g_aload_n (pc := 20) hX d_Mo_matrix_20 rfl 1 rfl ?_
    refine g_iconst (pc := 21) (v := 1) hX d_Mo_matrix_21 (by decide) ?_
    refine g_putZ (pc := 22) hX (Or.inr rfl) fl_Mo_31 rfl rfl rfl f3 d_Mo_matrix_22 ?_
    refine g_iconst (pc := 25) (v := 0) hX d_Mo_matrix_25 (by decide) ?_
    exact g_iret hX hQ h d_Mo_matrix_26
  · have h := h.2 q
    refine g_aload_n (pc := 12) hX d_Mo_matrix_12 rfl 1 rfl ?_
    refine g_iload_n (pc := 13) hX d_Mo_matrix_13 rfl 0 rfl ?_
    refine g_callV_Z (pc := 14) hX hR f3 cf9 rfl lk_Mo_241 mf_Mo_isMatrix (c_Mo_isMatrix _ _ _ _ h) rfl rfl rfl ⟨by decide, by decide⟩ (cat_sum _ (Nat.le_of_ble_eq_true rfl)) d_Mo_matrix_14 (fun r5 A4 h => ?_)
    refine g_ifB_ne (pc := 17) (tgt := 27) hX d_Mo_matrix_17 (by decide) (fun q => ?_) (fun q => ?_)
    · have h := h.1 q
      refine g_aload_n (pc := 27) hX d_Mo_matrix_27 rfl 1 rfl ?_
      refine g_dup (pc := 28) hX d_Mo_matrix_28 (cr_cat _ _) ?_
      refine g_getI (pc := 29) hX fl_Mo_22 rfl f3 d_Mo_matrix_29 ?_
      refine g_iconst (pc := 32) (v := 1) hX d_Mo_matrix_32 (by decide) ?_
      refine g_iadd (pc := 33) hX d_Mo_matrix_33 ?_
      refine g_putI (pc := 34) hX fl_Mo_22 rfl rfl rfl f3 d_Mo_matrix_34 ?_
      refine g_iload_n (pc := 37) hX d_Mo_matrix_37 rfl 0 rfl ?_
      refine g_bipush (pc := 38) (v := 80) hX d_Mo_matrix_38 (by decide) ?_
      refine g_isub (pc := 40) hX d_Mo_matrix_40 ?_
      exact g_iret hX hQ h d_Mo_matrix_41
    · have h := h.2 q
      refine g_aload_n (pc := 20) hX d_Mo_matrix_20 rfl 1 rfl ?_
      refine g_iconst (pc := 21) (v := 1) hX d_Mo_matrix_21 (by decide) ?_
      refine g_putZ (pc := 22) hX (Or.inr rfl) fl_Mo_31 rfl rfl rfl f3 d_Mo_matrix_22 ?_
      refine g_iconst (pc := 25) (v := 0) hX d_Mo_matrix_25 (by decide) ?_
      exact g_iret hX hQ h d_Mo_matrix_26
def wp_Mo_numeral_c136 (K : Mem → Prop) (x0 : Nat) (x1 : Int32) (x3 : Int32) (A : Mem) : Prop := kd x0 = 9 ∧ wp_Mo_make x0 0 A (fun (A14 : Mem) => wp_Mo_make x0 x1 A14 (fun (A16 : Mem) => wp_Mo_make x0 x3 A16 (fun (A17 : Mem) => K A17)))
def wp_Mo_numeral_c88 (K : Mem → Prop) : Nat → Nat → Int32 → Int32 → Mem → Prop
  | 0, _, _, _, _ => False
  | n + 1, x0, x1, x3, A => kd x0 = 9 ∧ ((¬ (gI A x0 7) = 0 → wp_Mo_numeral_c136 K x0 x1 x3 A) ∧ ((gI A x0 7) = 0 → wp_Mo_isDigit x0 A (fun (r20 : Bool) (A19 : Mem) => ((r20 = false → wp_Mo_numeral_c136 K x0 x1 x3 A19) ∧ (r20 = true → ((3 ≤ x3 → wp_Mo_numeral_c136 K x0 x1 x3 A19) ∧ (¬ 3 ≤ x3 → wp_Mo_look x0 A19 (fun (r22 : Int32) (A21 : Mem) => wp_Mo_numeral_c88 K n x0 (((x1 * 10) + r22) - 48) (x3 + 1) (sI A21 x0 4 ((gI A21 x0 4) + 1))))))))))
def wp_Mo_numeral_c67 (K : Mem → Prop) (x0 : Nat) (x1 : Int32) (x3 : Int32) (A : Mem) : Prop := kd x0 = 9 ∧ wp_Mo_take x0 46 A (fun (r10 : Bool) (A9 : Mem) => ((r10 = false → wp_Mo_numeral_c136 K x0 x1 x3 A9) ∧ (r10 = true → wp_Mo_isDigit x0 A9 (fun (r13 : Bool) (A12 : Mem) => ((r13 = true → (∃ n9 : Nat, wp_Mo_numeral_c88 K n9 x0 x1 x3 A12)) ∧ (r13 = false → (∃ n9 : Nat, wp_Mo_numeral_c88 K n9 x0 x1 x3 (sI A12 x0 7 1))))))))
def wp_Mo_numeral_c18 (K : Mem → Prop) : Nat → Nat → Int32 → Int32 → Int32 → Mem → Prop
  | 0, _, _, _, _, _ => False
  | n + 1, x0, x1, x2, x3, A => kd x0 = 9 ∧ ((¬ (gI A x0 7) = 0 → wp_Mo_numeral_c67 K x0 x1 x3 A) ∧ ((gI A x0 7) = 0 → wp_Mo_isDigit x0 A (fun (r6 : Bool) (A5 : Mem) => ((r6 = false → wp_Mo_numeral_c67 K x0 x1 x3 A5) ∧ (r6 = true → ((6 ≤ x2 → wp_Mo_numeral_c67 K x0 x1 x3 A5) ∧ (¬ 6 ≤ x2 → wp_Mo_look x0 A5 (fun (r8 : Int32) (A7 : Mem) => wp_Mo_numeral_c18 K n x0 (((x1 * 10) + r8) - 48) (x2 + 1) x3 (sI A7 x0 4 ((gI A7 x0 4) + 1))))))))))
def wp_Mo_numeral (o : Nat) (A : Mem) (K : Mem → Prop) : Prop := kd o = 9 ∧ wp_Mo_isDigit o A (fun (r2 : Bool) (A1 : Mem) => ((r2 = true → (∃ n9 : Nat, wp_Mo_numeral_c18 K n9 o 0 0 0 A1)) ∧ (r2 = false → (∃ n9 : Nat, wp_Mo_numeral_c18 K n9 o 0 0 0 (sI A1 o 7 1)))))
set_option maxRecDepth 100000 in
set_option maxHeartbeats 4000000 in
theorem k_Mo_numeral_c136 {X : CXT} {E : EVT} {K : Mem → Prop} (hX : Gd X E "BasicMachineModel" prog_14_method_20_code) (hR : Rm X 2 41) (hN : xnL X = 4) (hQ : QV X E K) (x0 : Nat) (x1 : Int32) (x3 : Int32) (A : Mem) (h : wp_Mo_numeral_c136 K x0 x1 x3 A) : G X E A 136 [(0, cr E x0), (1, .int (x1)), (3, .int (x3))] [] := by
  unfold wp_Mo_numeral_c136 at h
  refine g_aload_n (pc := 136) hX d_Mo_numeral_136 rfl 0 rfl ?_
  refine g_iconst (pc := 137) (v := 0) hX d_Mo_numeral_137 (by decide) ?_
  obtain ⟨f15, h⟩ := h
  refine g_callV_V (pc := 138) hX hR f15 cf9 rfl lk_Mo_244 mf_Mo_make (c_Mo_make _ _ _ _ h) rfl rfl rfl ⟨by decide, by decide⟩ (cat_sum _ (Nat.le_of_ble_eq_true rfl)) d_Mo_numeral_138 (fun A14 h => ?_)
  refine g_aload_n (pc := 141) hX d_Mo_numeral_141 rfl 0 rfl ?_
  refine g_iload_n (pc := 142) hX d_Mo_numeral_142 rfl 1 rfl ?_
  refine g_callV_V (pc := 143) hX hR f15 cf9 rfl lk_Mo_244 mf_Mo_make (c_Mo_make _ _ _ _ h) rfl rfl rfl ⟨by decide, by decide⟩ (cat_sum _ (Nat.le_of_ble_eq_true rfl)) d_Mo_numeral_143 (fun A16 h => ?_)
  refine g_aload_n (pc := 146) hX d_Mo_numeral_146 rfl 0 rfl ?_
  refine g_iload_n (pc := 147) hX d_Mo_numeral_147 rfl 2 rfl ?_
  refine g_callV_V (pc := 148) hX hR f15 cf9 rfl lk_Mo_244 mf_Mo_make (c_Mo_make _ _ _ _ h) rfl rfl rfl ⟨by decide, by decide⟩ (cat_sum _ (Nat.le_of_ble_eq_true rfl)) d_Mo_numeral_148 (fun A17 h => ?_)
  exact g_vret hX hQ h d_Mo_numeral_151
set_option maxRecDepth 100000 in
set_option maxHeartbeats 4000000 in
theorem k_Mo_numeral_c88 {X : CXT} {E : EVT} {K : Mem → Prop} (hX : Gd X E "BasicMachineModel" prog_14_method_20_code) (hR : Rm X 2 41) (hN : xnL X = 4) (hQ : QV X E K) : ∀ (n : Nat) (x0 : Nat) (x1 : Int32) (x3 : Int32) (A : Mem), wp_Mo_numeral_c88 K n x0 x1 x3 A → G X E A 88 [(0, cr E x0), (1, .int (x1)), (3, .int (x3))] [] := by
  intro n
  induction n with
  | zero => intro x0 x1 x3 A h; exact h.elim
  | succ n ih =>
    intro x0 x1 x3 A h
    rw [wp_Mo_numeral_c88] at h
    refine g_aload_n (pc := 88) hX d_Mo_numeral_88 rfl 0 rfl ?_
    obtain ⟨f18, h⟩ := h
    refine g_getI (pc := 89) hX fl_Mo_31 rfl f18 d_Mo_numeral_89 ?_
    refine g_if_ne (pc := 92) (tgt := 136) hX d_Mo_numeral_92 (by decide) (fun q => ?_) (fun q => ?_)
    · have h := h.1 q
      refine g_sub [0, 1, 2] rfl ?_
      exact k_Mo_numeral_c136 hX hR hN hQ _ _ _ _ h
    · have h := h.2 q
      refine g_aload_n (pc := 95) hX d_Mo_numeral_95 rfl 0 rfl ?_
      refine g_callV_Z (pc := 96) hX hR f18 cf9 rfl lk_Mo_237 mf_Mo_isDigit (c_Mo_isDigit _ _ _ h) rfl rfl rfl ⟨by decide, by decide⟩ (cat_sum _ (Nat.le_of_ble_eq_true rfl)) d_Mo_numeral_96 (fun r20 A19 h => ?_)
      refine g_ifB_eq (pc := 99) (tgt := 136) hX d_Mo_numeral_99 (by decide) (fun q => ?_) (fun q => ?_)
      · have h := h.1 q
        refine g_sub [0, 1, 2] rfl ?_
        exact k_Mo_numeral_c136 hX hR hN hQ _ _ _ _ h
      · have h := h.2 q
        refine g_iload_n (pc := 102) hX d_Mo_numeral_102 rfl 2 rfl ?_
        refine g_iconst (pc := 103) (v := 3) hX d_Mo_numeral_103 (by decide) ?_
        refine g_icmp_ge (pc := 104) (tgt := 136) hX d_Mo_numeral_104 (by decide) (fun q => ?_) (fun q => ?_)
        · have h := h.1 q
          refine g_sub [0, 1, 2] rfl ?_
          exact k_Mo_numeral_c136 hX hR hN hQ _ _ _ _ h
        · have h := h.2 q
          refine g_iload_n (pc := 107) hX d_Mo_numeral_107 rfl 1 rfl ?_
          refine g_bipush (pc := 108) (v := 10) hX d_Mo_numeral_108 (by decide) ?_
          refine g_imul (pc := 110) hX d_Mo_numeral_110 ?_
          refine g_aload_n (pc := 111) hX d_Mo_numeral_111 rfl 0 rfl ?_
          refine g_callV_I (pc := 112) hX hR f18 cf9 rfl lk_Mo_156 mf_Mo_look (c_Mo_look _ _ _ h) rfl rfl rfl ⟨by decide, by decide⟩ (cat_sum _ (Nat.le_of_ble_eq_true rfl)) d_Mo_numeral_112 (fun r22 A21 h => ?_)
          refine g_iadd (pc := 115) hX d_Mo_numeral_115 ?_
          refine g_bipush (pc := 116) (v := 48) hX d_Mo_numeral_116 (by decide) ?_
          refine g_isub (pc := 118) hX d_Mo_numeral_118 ?_
          refine g_istore_n (pc := 119) (lv0 := [(0, cr E x0), (3, .int (x3))]) hX d_Mo_numeral_119 rfl (by rw [hN]; decide) (g_st1b (ks := [0, 2]) rfl (cr_cat _ _) rfl rfl) ?_
          refine g_aload_n (pc := 120) hX d_Mo_numeral_120 rfl 1 rfl ?_
          refine g_dup (pc := 121) hX d_Mo_numeral_121 (cr_cat _ _) ?_
          refine g_getI (pc := 122) hX fl_Mo_22 rfl f18 d_Mo_numeral_122 ?_
          refine g_iconst (pc := 125) (v := 1) hX d_Mo_numeral_125 (by decide) ?_
          refine g_iadd (pc := 126) hX d_Mo_numeral_126 ?_
          refine g_putI (pc := 127) hX fl_Mo_22 rfl rfl rfl f18 d_Mo_numeral_127 ?_
          refine g_iinc (pc := 130) (v := (x3 + 1)) (lv0 := [(1, .int ((((x1 * 10) + r22) - 48))), (0, cr E x0)]) hX d_Mo_numeral_130 2 rfl rfl (by rw [hN]; decide) (g_st1 (ks := [0, 1]) rfl rfl) ?_
          refine g_goto (pc := 133) (tgt := 88) hX d_Mo_numeral_133 (by decide) ?_
          refine g_sub [2, 1, 0] rfl ?_
          exact ih _ _ _ _ h
set_option maxRecDepth 100000 in
set_option maxHeartbeats 4000000 in
theorem k_Mo_numeral_c67 {X : CXT} {E : EVT} {K : Mem → Prop} (hX : Gd X E "BasicMachineModel" prog_14_method_20_code) (hR : Rm X 2 41) (hN : xnL X = 4) (hQ : QV X E K) (x0 : Nat) (x1 : Int32) (x3 : Int32) (A : Mem) (h : wp_Mo_numeral_c67 K x0 x1 x3 A) : G X E A 67 [(0, cr E x0), (1, .int (x1)), (3, .int (x3))] [] := by
  unfold wp_Mo_numeral_c67 at h
  refine g_aload_n (pc := 67) hX d_Mo_numeral_67 rfl 0 rfl ?_
  refine g_bipush (pc := 68) (v := 46) hX d_Mo_numeral_68 (by decide) ?_
  obtain ⟨f11, h⟩ := h
  refine g_callV_Z (pc := 70) hX hR f11 cf9 rfl lk_Mo_160 mf_Mo_take (c_Mo_take _ _ _ _ h) rfl rfl rfl ⟨by decide, by decide⟩ (cat_sum _ (Nat.le_of_ble_eq_true rfl)) d_Mo_numeral_70 (fun r10 A9 h => ?_)
  refine g_ifB_eq (pc := 73) (tgt := 136) hX d_Mo_numeral_73 (by decide) (fun q => ?_) (fun q => ?_)
  · have h := h.1 q
    refine g_sub [0, 1, 2] rfl ?_
    exact k_Mo_numeral_c136 hX hR hN hQ _ _ _ _ h
  · have h := h.2 q
    refine g_aload_n (pc := 76) hX d_Mo_numeral_76 rfl 0 rfl ?_
    refine g_callV_Z (pc := 77) hX hR f11 cf9 rfl lk_Mo_237 mf_Mo_isDigit (c_Mo_isDigit _ _ _ h) rfl rfl rfl ⟨by decide, by decide⟩ (cat_sum _ (Nat.le_of_ble_eq_true rfl)) d_Mo_numeral_77 (fun r13 A12 h => ?_)
    refine g_ifB_ne (pc := 80) (tgt := 88) hX d_Mo_numeral_80 (by decide) (fun q => ?_) (fun q => ?_)
    · have h := h.1 q
      refine g_sub [0, 1, 2] rfl ?_
      obtain ⟨n9, h⟩ := h
      exact k_Mo_numeral_c88 hX hR hN hQ n9 _ _ _ _ h
    · have h := h.2 q
      refine g_aload_n (pc := 83) hX d_Mo_numeral_83 rfl 0 rfl ?_
      refine g_iconst (pc := 84) (v := 1) hX d_Mo_numeral_84 (by decide) ?_
      refine g_putZ (pc := 85) hX (Or.inr rfl) fl_Mo_31 rfl rfl rfl f11 d_Mo_numeral_85 ?_
      refine g_sub [0, 1, 2] rfl ?_
      obtain ⟨n9, h⟩ := h
      exact k_Mo_numeral_c88 hX hR hN hQ n9 _ _ _ _ h
set_option maxRecDepth 100000 in
set_option maxHeartbeats 4000000 in
theorem k_Mo_numeral_c18 {X : CXT} {E : EVT} {K : Mem → Prop} (hX : Gd X E "BasicMachineModel" prog_14_method_20_code) (hR : Rm X 2 41) (hN : xnL X = 4) (hQ : QV X E K) : ∀ (n : Nat) (x0 : Nat) (x1 : Int32) (x2 : Int32) (x3 : Int32) (A : Mem), wp_Mo_numeral_c18 K n x0 x1 x2 x3 A → G X E A 18 [(0, cr E x0), (1, .int (x1)), (2, .int (x2)), (3, .int (x3))] [] := by
  intro n
  induction n with
  | zero => intro x0 x1 x2 x3 A h; exact h.elim
  | succ n ih =>
    intro x0 x1 x2 x3 A h
    rw [wp_Mo_numeral_c18] at h
    refine g_aload_n (pc := 18) hX d_Mo_numeral_18 rfl 0 rfl ?_
    obtain ⟨f4, h⟩ := h
    refine g_getI (pc := 19) hX fl_Mo_31 rfl f4 d_Mo_numeral_19 ?_
    refine g_if_ne (pc := 22) (tgt := 67) hX d_Mo_numeral_22 (by decide) (fun q => ?_) (fun q => ?_)
    · have h := h.1 q
      refine g_sub [0, 1, 3] rfl ?_
      exact k_Mo_numeral_c67 hX hR hN hQ _ _ _ _ h
    · have h := h.2 q
      refine g_aload_n (pc := 25) hX d_Mo_numeral_25 rfl 0 rfl ?_
      refine g_callV_Z (pc := 26) hX hR f4 cf9 rfl lk_Mo_237 mf_Mo_isDigit (c_Mo_isDigit _ _ _ h) rfl rfl rfl ⟨by decide, by decide⟩ (cat_sum _ (Nat.le_of_ble_eq_true rfl)) d_Mo_numeral_26 (fun r6 A5 h => ?_)
      refine g_ifB_eq (pc := 29) (tgt := 67) hX d_Mo_numeral_29 (by decide) (fun q => ?_) (fun q => ?_)
      · have h := h.1 q
        refine g_sub [0, 1, 3] rfl ?_
        exact k_Mo_numeral_c67 hX hR hN hQ _ _ _ _ h
      · have h := h.2 q
        refine g_iload_n (pc := 32) hX d_Mo_numeral_32 rfl 2 rfl ?_
        refine g_bipush (pc := 33) (v := 6) hX d_Mo_numeral_33 (by decide) ?_
        refine g_icmp_ge (pc := 35) (tgt := 67) hX d_Mo_numeral_35 (by decide) (fun q => ?_) (fun q => ?_)
        · have h := h.1 q
          refine g_sub [0, 1, 3] rfl ?_
          exact k_Mo_numeral_c67 hX hR hN hQ _ _ _ _ h
        · have h := h.2 q
          refine g_iload_n (pc := 38) hX d_Mo_numeral_38 rfl 1 rfl ?_
          refine g_bipush (pc := 39) (v := 10) hX d_Mo_numeral_39 (by decide) ?_
          refine g_imul (pc := 41) hX d_Mo_numeral_41 ?_
          refine g_aload_n (pc := 42) hX d_Mo_numeral_42 rfl 0 rfl ?_
          refine g_callV_I (pc := 43) hX hR f4 cf9 rfl lk_Mo_156 mf_Mo_look (c_Mo_look _ _ _ h) rfl rfl rfl ⟨by decide, by decide⟩ (cat_sum _ (Nat.le_of_ble_eq_true rfl)) d_Mo_numeral_43 (fun r8 A7 h => ?_)
          refine g_iadd (pc := 46) hX d_Mo_numeral_46 ?_
          refine g_bipush (pc := 47) (v := 48) hX d_Mo_numeral_47 (by decide) ?_
          refine g_isub (pc := 49) hX d_Mo_numeral_49 ?_
          refine g_istore_n (pc := 50) (lv0 := [(0, cr E x0), (2, .int (x2)), (3, .int (x3))]) hX d_Mo_numeral_50 rfl (by rw [hN]; decide) (g_st1b (ks := [0, 2, 3]) rfl (cr_cat _ _) rfl rfl) ?_
          refine g_aload_n (pc := 51) hX d_Mo_numeral_51 rfl 1 rfl ?_
          refine g_dup (pc := 52) hX d_Mo_numeral_52 (cr_cat _ _) ?_
          refine g_getI (pc := 53) hX fl_Mo_22 rfl f4 d_Mo_numeral_53 ?_
          refine g_iconst (pc := 56) (v := 1) hX d_Mo_numeral_56 (by decide) ?_
          refine g_iadd (pc := 57) hX d_Mo_numeral_57 ?_
          refine g_putI (pc := 58) hX fl_Mo_22 rfl rfl rfl f4 d_Mo_numeral_58 ?_
          refine g_iinc (pc := 61) (v := (x2 + 1)) (lv0 := [(1, .int ((((x1 * 10) + r8) - 48))), (0, cr E x0), (3, .int (x3))]) hX d_Mo_numeral_61 2 rfl rfl (by rw [hN]; decide) (g_st1b (ks := [0, 1, 3]) rfl rfl rfl rfl) ?_
          refine g_goto (pc := 64) (tgt := 18) hX d_Mo_numeral_64 (by decide) ?_
          refine g_sub [2, 1, 0, 3] rfl ?_
          exact ih _ _ _ _ _ h
set_option maxRecDepth 100000 in
set_option maxHeartbeats 4000000 in
theorem c_Mo_numeral (o : Nat) (A : Mem) (K : Mem → Prop) (h : wp_Mo_numeral o A K) : CtV y_Mo_numeral prog_14_method_20_code 4 2 41 (fun E => [cr E o]) A K := by
  refine ctV_of "BasicMachineModel" (by decide) rfl (fun E => [(0, cr E o)]) (fun E => by simp [lg_sl, cr_cat, ca_i, ca_l, ca_d]) (fun E => by simp [lv_args, cr_cat, ca_i, ca_l, ca_d]) (fun X E hX hR hN hQ => ?_)
  unfold wp_Mo_numeral at h
  refine g_iconst (pc := 0) (v := 0) hX d_Mo_numeral_0 (by decide) ?_
  refine g_istore_n (pc := 1) (lv0 := [(0, cr E o)]) hX d_Mo_numeral_1 rfl (by rw [hN]; decide) (g_st1b (ks := [0]) rfl (cr_cat _ _) rfl rfl) ?_
  refine g_iconst (pc := 2) (v := 0) hX d_Mo_numeral_2 (by decide) ?_
  refine g_istore_n (pc := 3) (lv0 := [(1, .int (0)), (0, cr E o)]) hX d_Mo_numeral_3 rfl (by rw [hN]; decide) (g_st1b (ks := [0, 1]) rfl rfl rfl rfl) ?_
  refine g_iconst (pc := 4) (v := 0) hX d_Mo_numeral_4 (by decide) ?_
  refine g_istore_n (pc := 5) (lv0 := [(2, .int (0)), (1, .int (0)), (0, cr E o)]) hX d_Mo_numeral_5 rfl (by rw [hN]; decide) (g_st1b (ks := [0, 1, 2]) rfl rfl rfl rfl) ?_
  refine g_aload_n (pc := 6) hX d_Mo_numeral_6 rfl 3 rfl ?_
  obtain ⟨f3, h⟩ := h
  refine g_callV_Z (pc := 7) hX hR f3 cf9 rfl lk_Mo_237 mf_Mo_isDigit (c_Mo_isDigit _ _ _ h) rfl rfl rfl ⟨by decide, by decide⟩ (cat_sum _ (Nat.le_of_ble_eq_true rfl)) d_Mo_numeral_7 (fun r2 A1 h => ?_)
  refine g_ifB_ne (pc := 10) (tgt := 18) hX d_Mo_numeral_10 (by decide) (fun q => ?_) (fun q => ?_)
  · have h := h.1 q
    refine g_sub [3, 2, 1, 0] rfl ?_
    obtain ⟨n9, h⟩ := h
    exact k_Mo_numeral_c18 hX hR hN hQ n9 _ _ _ _ _ h
  · have h := h.2 q
    refine g_aload_n (pc := 13) hX d_Mo_numeral_13 rfl 3 rfl ?_
    refine g_iconst (pc := 14) (v := 1) hX d_Mo_numeral_14 (by decide) ?_
    refine g_putZ (pc := 15) hX (Or.inr rfl) fl_Mo_31 rfl rfl rfl f3 d_Mo_numeral_15 ?_
    refine g_sub [3, 2, 1, 0] rfl ?_
    obtain ⟨n9, h⟩ := h
    exact k_Mo_numeral_c18 hX hR hN hQ n9 _ _ _ _ _ h
def wp_Mo_bracket_c14 (K : Mem → Prop) (x0 : Nat) (A : Mem) : Prop := kd x0 = 9 ∧ wp_Mo_need x0 40 A (fun (A2 : Mem) => ((¬ (gI A2 x0 7) = 0 → K A2) ∧ ((gI A2 x0 7) = 0 → K (sI A2 x0 5 ((gI A2 x0 5) + 1)))))
def wp_Mo_bracket (o : Nat) (A : Mem) (K : Mem → Prop) : Prop := kd o = 9 ∧ ((¬ (gI A o 5) = 6 → wp_Mo_bracket_c14 K o A) ∧ ((gI A o 5) = 6 → wp_Mo_bracket_c14 K o (sI A o 7 1)))
set_option maxRecDepth 100000 in
set_option maxHeartbeats 4000000 in
theorem k_Mo_bracket_c14 {X : CXT} {E : EVT} {K : Mem → Prop} (hX : Gd X E "BasicMachineModel" prog_14_method_21_code) (hR : Rm X 3 62) (hN : xnL X = 1) (hQ : QV X E K) (x0 : Nat) (A : Mem) (h : wp_Mo_bracket_c14 K x0 A) : G X E A 14 [(0, cr E x0)] [] := by
  unfold wp_Mo_bracket_c14 at h
  refine g_aload_n (pc := 14) hX d_Mo_bracket_14 rfl 0 rfl ?_
  refine g_bipush (pc := 15) (v := 40) hX d_Mo_bracket_15 (by decide) ?_
  obtain ⟨f3, h⟩ := h
  refine g_callV_V (pc := 17) hX hR f3 cf9 rfl lk_Mo_248 mf_Mo_need (c_Mo_need _ _ _ _ h) rfl rfl rfl ⟨by decide, by decide⟩ (cat_sum _ (Nat.le_of_ble_eq_true rfl)) d_Mo_bracket_17 (fun A2 h => ?_)
  refine g_aload_n (pc := 20) hX d_Mo_bracket_20 rfl 0 rfl ?_
  refine g_getI (pc := 21) hX fl_Mo_31 rfl f3 d_Mo_bracket_21 ?_
  refine g_if_ne (pc := 24) (tgt := 37) hX d_Mo_bracket_24 (by decide) (fun q => ?_) (fun q => ?_)
  · have h := h.1 q
    exact g_vret hX hQ h d_Mo_bracket_37
  · have h := h.2 q
    refine g_aload_n (pc := 27) hX d_Mo_bracket_27 rfl 0 rfl ?_
    refine g_dup (pc := 28) hX d_Mo_bracket_28 (cr_cat _ _) ?_
    refine g_getI (pc := 29) hX fl_Mo_25 rfl f3 d_Mo_bracket_29 ?_
    refine g_iconst (pc := 32) (v := 1) hX d_Mo_bracket_32 (by decide) ?_
    refine g_iadd (pc := 33) hX d_Mo_bracket_33 ?_
    refine g_putI (pc := 34) hX fl_Mo_25 rfl rfl rfl f3 d_Mo_bracket_34 ?_
    exact g_vret hX hQ h d_Mo_bracket_37
set_option maxRecDepth 100000 in
set_option maxHeartbeats 4000000 in
theorem c_Mo_bracket (o : Nat) (A : Mem) (K : Mem → Prop) (h : wp_Mo_bracket o A K) : CtV y_Mo_bracket prog_14_method_21_code 1 3 62 (fun E => [cr E o]) A K := by
  refine ctV_of "BasicMachineModel" (by decide) rfl (fun E => [(0, cr E o)]) (fun E => by simp [lg_sl, cr_cat, ca_i, ca_l, ca_d]) (fun E => by simp [lv_args, cr_cat, ca_i, ca_l, ca_d]) (fun X E hX hR hN hQ => ?_)
  unfold wp_Mo_bracket at h
  refine g_aload_n (pc := 0) hX d_Mo_bracket_0 rfl 0 rfl ?_
  obtain ⟨f1, h⟩ := h
  refine g_getI (pc := 1) hX fl_Mo_25 rfl f1 d_Mo_bracket_1 ?_
  refine g_bipush (pc := 4) (v := 6) hX d_Mo_bracket_4 (by decide) ?_
  refine g_icmp_ne (pc := 6) (tgt := 14) hX d_Mo_bracket_6 (by decide) (fun q => ?_) (fun q => ?_)
  · have h := h.1 q
    refine g_sub [0] rfl ?_
    exact k_Mo_bracket_c14 hX hR hN hQ _ _ h
  · have h := h.2 q
    refine g_aload_n (pc := 9) hX d_Mo_bracket_9 rfl 0 rfl ?_
    refine g_iconst (pc := 10) (v := 1) hX d_Mo_bracket_10 (by decide) ?_
    refine g_putZ (pc := 11) hX (Or.inr rfl) fl_Mo_31 rfl rfl rfl f1 d_Mo_bracket_11 ?_
    refine g_sub [0] rfl ?_
    exact k_Mo_bracket_c14 hX hR hN hQ _ _ h
def wp_Mo_shut (o : Nat) (A : Mem) (K : Mem → Prop) : Prop := kd o = 9 ∧ wp_Mo_need o 41 A (fun (A1 : Mem) => ((¬ (gI A1 o 7) = 0 → K A1) ∧ ((gI A1 o 7) = 0 → K (sI A1 o 5 ((gI A1 o 5) - 1)))))
set_option maxRecDepth 100000 in
set_option maxHeartbeats 4000000 in
theorem c_Mo_shut (o : Nat) (A : Mem) (K : Mem → Prop) (h : wp_Mo_shut o A K) : CtV y_Mo_shut prog_14_method_22_code 1 3 62 (fun E => [cr E o]) A K := by
  refine ctV_of "BasicMachineModel" (by decide) rfl (fun E => [(0, cr E o)]) (fun E => by simp [lg_sl, cr_cat, ca_i, ca_l, ca_d]) (fun E => by simp [lv_args, cr_cat, ca_i, ca_l, ca_d]) (fun X E hX hR hN hQ => ?_)
  unfold wp_Mo_shut at h
  refine g_aload_n (pc := 0) hX d_Mo_shut_0 rfl 0 rfl ?_
  refine g_bipush (pc := 1) (v := 41) hX d_Mo_shut_1 (by decide) ?_
  obtain ⟨f2, h⟩ := h
  refine g_callV_V (pc := 3) hX hR f2 cf9 rfl lk_Mo_248 mf_Mo_need (c_Mo_need _ _ _ _ h) rfl rfl rfl ⟨by decide, by decide⟩ (cat_sum _ (Nat.le_of_ble_eq_true rfl)) d_Mo_shut_3 (fun A1 h => ?_)
  refine g_aload_n (pc := 6) hX d_Mo_shut_6 rfl 0 rfl ?_
  refine g_getI (pc := 7) hX fl_Mo_31 rfl f2 d_Mo_shut_7 ?_
  refine g_if_ne (pc := 10) (tgt := 23) hX d_Mo_shut_10 (by decide) (fun q => ?_) (fun q => ?_)
  · have h := h.1 q
    exact g_vret hX hQ h d_Mo_shut_23
  · have h := h.2 q
    refine g_aload_n (pc := 13) hX d_Mo_shut_13 rfl 0 rfl ?_
    refine g_dup (pc := 14) hX d_Mo_shut_14 (cr_cat _ _) ?_
    refine g_getI (pc := 15) hX fl_Mo_25 rfl f2 d_Mo_shut_15 ?_
    refine g_iconst (pc := 18) (v := 1) hX d_Mo_shut_18 (by decide) ?_
    refine g_isub (pc := 19) hX d_Mo_shut_19 ?_
    refine g_putI (pc := 20) hX fl_Mo_25 rfl rfl rfl f2 d_Mo_shut_20 ?_
    exact g_vret hX hQ h d_Mo_shut_23
def wp_Mo_rank (o : Nat) (p1 : Int32) (A : Mem) (K : Int32 → Mem → Prop) : Prop := ((p1 ≤ 99 → ((¬ p1 = 7 → ((p1 = 5 → K 2 A) ∧ (¬ p1 = 5 → ((¬ p1 = 6 → K 1 A) ∧ (p1 = 6 → K 2 A))))) ∧ (p1 = 7 → K 3 A))) ∧ (¬ p1 ≤ 99 → K 0 A))
set_option maxRecDepth 100000 in
set_option maxHeartbeats 4000000 in
theorem c_Mo_rank (o : Nat) (p1 : Int32) (A : Mem) (K : Int32 → Mem → Prop) (h : wp_Mo_rank o p1 A K) : CtI y_Mo_rank prog_14_method_23_code 2 0 0 (fun E => [cr E o, .int (p1)]) A K := by
  refine ctI_of "BasicMachineModel" (by decide) rfl (fun E => [(0, cr E o), (1, .int (p1))]) (fun E => by simp [lg_sl, cr_cat, ca_i, ca_l, ca_d]) (fun E => by simp [lv_args, cr_cat, ca_i, ca_l, ca_d]) (fun X E hX hR hN hQ => ?_)
  unfold wp_Mo_rank at h
  refine g_iload_n (pc := 0) hX d_Mo_rank_0 rfl 1 rfl ?_
  refine g_bipush (pc := 1) (v := 99) hX d_Mo_rank_1 (by decide) ?_
  refine g_icmp_le (pc := 3) (tgt := 10) hX d_Mo_rank_3 (by decide) (fun q => ?_) (fun q => ?_)
  · have h := h.1 q
    refine g_iload_n (pc := 10) hX d_Mo_rank_10 rfl 1 rfl ?_
    refine g_bipush (pc := 11) (v := 7) hX d_Mo_rank_11 (by decide) ?_
    refine g_icmp_ne (pc := 13) (tgt := 20) hX d_Mo_rank_13 (by decide) (fun q => ?_) (fun q => ?_)
    · have h := h.1 q
      refine g_iload_n (pc := 20) hX d_Mo_rank_20 rfl 1 rfl ?_
      refine g_iconst (pc := 21) (v := 5) hX d_Mo_rank_21 (by decide) ?_
      refine g_icmp_eq (pc := 22) (tgt := 31) hX d_Mo_rank_22 (by decide) (fun q => ?_) (fun q => ?_)
      · have h := h.1 q
        refine g_iconst (pc := 31) (v := 2) hX d_Mo_rank_31 (by decide) ?_
        refine g_goto (pc := 32) (tgt := 36) hX d_Mo_rank_32 (by decide) ?_
        exact g_iret hX hQ h d_Mo_rank_36
      · have h := h.2 q
        refine g_iload_n (pc := 25) hX d_Mo_rank_25 rfl 1 rfl ?_
        refine g_bipush (pc := 26) (v := 6) hX d_Mo_rank_26 (by decide) ?_
        refine g_icmp_ne (pc := 28) (tgt := 35) hX d_Mo_rank_28 (by decide) (fun q => ?_) (fun q => ?_)
        · have h := h.1 q
          refine g_iconst (pc := 35) (v := 1) hX d_Mo_rank_35 (by decide) ?_
          exact g_iret hX hQ h d_Mo_rank_36
        · have h := h.2 q
          refine g_iconst (pc := 31) (v := 2) hX d_Mo_rank_31 (by decide) ?_
          refine g_goto (pc := 32) (tgt := 36) hX d_Mo_rank_32 (by decide) ?_
          exact g_iret hX hQ h d_Mo_rank_36
    · have h := h.2 q
      refine g_iconst (pc := 16) (v := 3) hX d_Mo_rank_16 (by decide) ?_
      refine g_goto (pc := 17) (tgt := 36) hX d_Mo_rank_17 (by decide) ?_
      exact g_iret hX hQ h d_Mo_rank_36
  · have h := h.2 q
    refine g_iconst (pc := 6) (v := 0) hX d_Mo_rank_6 (by decide) ?_
    refine g_goto (pc := 7) (tgt := 36) hX d_Mo_rank_7 (by decide) ?_
    exact g_iret hX hQ h d_Mo_rank_36
def wp_Mo_settle_c2 (K : Int32 → Mem → Prop) : Nat → Nat → Int32 → Int32 → Mem → Prop
  | 0, _, _, _, _ => False
  | n + 1, x0, x2, x3, A => ((x3 ≤ 0 → K x3 A) ∧ (¬ x3 ≤ 0 → kd x0 = 9 ∧ kd (gR A x0 15) = 51 ∧ vp_in (x3 - 1) (al (gR A x0 15)) ∧ ((100 ≤ (gI A (gR A x0 15) (Int32.toNatClampNeg (x3 - 1))) → K x3 A) ∧ (¬ 100 ≤ (gI A (gR A x0 15) (Int32.toNatClampNeg (x3 - 1))) → wp_Mo_rank x0 (gI A (gR A x0 15) (Int32.toNatClampNeg (x3 - 1))) A (fun (r5 : Int32) (A4 : Mem) => ((r5 < x2 → K x3 A4) ∧ (¬ r5 < x2 → kd (gR A4 x0 15) = 51 ∧ vp_in (x3 - 1) (al (gR A4 x0 15)) ∧ wp_Mo_make x0 (gI A4 (gR A4 x0 15) (Int32.toNatClampNeg (x3 - 1))) A4 (fun (A8 : Mem) => wp_Mo_settle_c2 K n x0 x2 (x3 + (-1)) A8))))))))
def wp_Mo_settle (o : Nat) (p1 : Int32) (p2 : Int32) (A : Mem) (K : Int32 → Mem → Prop) : Prop := (∃ n9 : Nat, wp_Mo_settle_c2 K n9 o p2 p1 A)
set_option maxRecDepth 100000 in
set_option maxHeartbeats 4000000 in
theorem k_Mo_settle_c2 {X : CXT} {E : EVT} {K : Int32 → Mem → Prop} (hX : Gd X E "BasicMachineModel" prog_14_method_24_code) (hR : Rm X 1 21) (hN : xnL X = 4) (hQ : QI X E K) : ∀ (n : Nat) (x0 : Nat) (x2 : Int32) (x3 : Int32) (A : Mem), wp_Mo_settle_c2 K n x0 x2 x3 A → G X E A 2 [(0, cr E x0), (2, .int (x2)), (3, .int (x3))] [] := by
  intro n
  induction n with
  | zero => intro x0 x2 x3 A h; exact h.elim
  | succ n ih =>
    intro x0 x2 x3 A h
    rw [wp_Mo_settle_c2] at h
    refine g_iload_n (pc := 2) hX d_Mo_settle_2 rfl 2 rfl ?_
    refine g_if_le (pc := 3) (tgt := 53) hX d_Mo_settle_3 (by decide) (fun q => ?_) (fun q => ?_)
    · have h := h.1 q
      refine g_iload_n (pc := 53) hX d_Mo_settle_53 rfl 2 rfl ?_
      exact g_iret hX hQ h d_Mo_settle_54
    · have h := h.2 q
      refine g_aload_n (pc := 6) hX d_Mo_settle_6 rfl 0 rfl ?_
      obtain ⟨f1, h⟩ := h
      refine g_getR (pc := 7) hX fl_Mo_58 rfl f1 d_Mo_settle_7 ?_
      refine g_iload_n (pc := 10) hX d_Mo_settle_10 rfl 2 rfl ?_
      refine g_iconst (pc := 11) (v := 1) hX d_Mo_settle_11 (by decide) ?_
      refine g_isub (pc := 12) hX d_Mo_settle_12 ?_
      obtain ⟨f2, h⟩ := h
      obtain ⟨f3, h⟩ := h
      refine g_iaload (pc := 13) hX f2 f3 d_Mo_settle_13 ?_
      refine g_bipush (pc := 14) (v := 100) hX d_Mo_settle_14 (by decide) ?_
      refine g_icmp_ge (pc := 16) (tgt := 53) hX d_Mo_settle_16 (by decide) (fun q => ?_) (fun q => ?_)
      · have h := h.1 q
        refine g_iload_n (pc := 53) hX d_Mo_settle_53 rfl 2 rfl ?_
        exact g_iret hX hQ h d_Mo_settle_54
      · have h := h.2 q
        refine g_aload_n (pc := 19) hX d_Mo_settle_19 rfl 0 rfl ?_
        refine g_aload_n (pc := 20) hX d_Mo_settle_20 rfl 0 rfl ?_
        refine g_getR (pc := 21) hX fl_Mo_58 rfl f1 d_Mo_settle_21 ?_
        refine g_iload_n (pc := 24) hX d_Mo_settle_24 rfl 2 rfl ?_
        refine g_iconst (pc := 25) (v := 1) hX d_Mo_settle_25 (by decide) ?_
        refine g_isub (pc := 26) hX d_Mo_settle_26 ?_
        refine g_iaload (pc := 27) hX f2 f3 d_Mo_settle_27 ?_
        refine g_callV_I (pc := 28) hX hR f1 cf9 rfl lk_Mo_251 mf_Mo_rank (c_Mo_rank _ _ _ _ h) rfl rfl rfl ⟨by decide, by decide⟩ (cat_sum _ (Nat.le_of_ble_eq_true rfl)) d_Mo_settle_28 (fun r5 A4 h => ?_)
        refine g_iload_n (pc := 31) hX d_Mo_settle_31 rfl 1 rfl ?_
        refine g_icmp_lt (pc := 32) (tgt := 53) hX d_Mo_settle_32 (by decide) (fun q => ?_) (fun q => ?_)
        · have h := h.1 q
          refine g_iload_n (pc := 53) hX d_Mo_settle_53 rfl 2 rfl ?_
          exact g_iret hX hQ h d_Mo_settle_54
        · have h := h.2 q
          refine g_aload_n (pc := 35) hX d_Mo_settle_35 rfl 0 rfl ?_
          refine g_aload_n (pc := 36) hX d_Mo_settle_36 rfl 0 rfl ?_
          refine g_getR (pc := 37) hX fl_Mo_58 rfl f1 d_Mo_settle_37 ?_
          refine g_iload_n (pc := 40) hX d_Mo_settle_40 rfl 2 rfl ?_
          refine g_iconst (pc := 41) (v := 1) hX d_Mo_settle_41 (by decide) ?_
          refine g_isub (pc := 42) hX d_Mo_settle_42 ?_
          obtain ⟨f6, h⟩ := h
          obtain ⟨f7, h⟩ := h
          refine g_iaload (pc := 43) hX f6 f7 d_Mo_settle_43 ?_
          refine g_callV_V (pc := 44) hX hR f1 cf9 rfl lk_Mo_244 mf_Mo_make (c_Mo_make _ _ _ _ h) rfl rfl rfl ⟨by decide, by decide⟩ (cat_sum _ (Nat.le_of_ble_eq_true rfl)) d_Mo_settle_44 (fun A8 h => ?_)
          refine g_iinc (pc := 47) (v := (x3 + (-1))) (lv0 := [(2, .int (x2)), (0, cr E x0)]) hX d_Mo_settle_47 2 rfl rfl (by rw [hN]; decide) (g_st1b (ks := [1, 0]) rfl rfl rfl rfl) ?_
          refine g_goto (pc := 50) (tgt := 2) hX d_Mo_settle_50 (by decide) ?_
          refine g_sub [2, 1, 0] rfl ?_
          exact ih _ _ _ _ h
set_option maxRecDepth 100000 in
set_option maxHeartbeats 4000000 in
theorem c_Mo_settle (o : Nat) (p1 : Int32) (p2 : Int32) (A : Mem) (K : Int32 → Mem → Prop) (h : wp_Mo_settle o p1 p2 A K) : CtI y_Mo_settle prog_14_method_24_code 4 1 21 (fun E => [cr E o, .int (p1), .int (p2)]) A K := by
  refine ctI_of "BasicMachineModel" (by decide) rfl (fun E => [(0, cr E o), (1, .int (p1)), (2, .int (p2))]) (fun E => by simp [lg_sl, cr_cat, ca_i, ca_l, ca_d]) (fun E => by simp [lv_args, cr_cat, ca_i, ca_l, ca_d]) (fun X E hX hR hN hQ => ?_)
  unfold wp_Mo_settle at h
  refine g_iload_n (pc := 0) hX d_Mo_settle_0 rfl 1 rfl ?_
  refine g_istore_n (pc := 1) (lv0 := [(2, .int (p2)), (0, cr E o), (1, .int (p1))]) hX d_Mo_settle_1 rfl (by rw [hN]; decide) (g_st1b (ks := [2, 0, 1]) rfl rfl rfl rfl) ?_
  refine g_sub [2, 1, 0] rfl ?_
  obtain ⟨n9, h⟩ := h
  exact k_Mo_settle_c2 hX hR hN hQ n9 _ _ _ _ h
def wp_Mo_partMark_c281 (K : Int32 → Mem → Prop) (x0 : Nat) (x6 : Int32) (A : Mem) : Prop := kd x0 = 9 ∧ wp_Mo_make x0 12 A (fun (A49 : Mem) => wp_Mo_make x0 (x6 - 65) A49 (fun (A51 : Mem) => K ((104 + x6) - 65) A51))
def wp_Mo_partMark_c215 (K : Int32 → Mem → Prop) (x0 : Nat) (x3 : Int32) (x4 : Int32) (x5 : Int32) (A : Mem) : Prop := ((x5 = 0 → kd x0 = 9 ∧ wp_Mo_variable0 x0 A (fun (r32 : Int32) (A31 : Mem) => wp_Mo_make x0 1 A31 (fun (A34 : Mem) => wp_Mo_make x0 r32 A34 (fun (A35 : Mem) => K 0 A35)))) ∧ (¬ x5 = 0 → ((¬ x3 = 70 → kd x0 = 9 ∧ wp_Mo_variable0 x0 A (fun (r37 : Int32) (A36 : Mem) => wp_Mo_make x0 1 A36 (fun (A39 : Mem) => wp_Mo_make x0 r37 A39 (fun (A40 : Mem) => K 0 A40)))) ∧ (x3 = 70 → ((¬ x4 = 78 → kd x0 = 9 ∧ wp_Mo_variable0 x0 A (fun (r42 : Int32) (A41 : Mem) => wp_Mo_make x0 1 A41 (fun (A44 : Mem) => wp_Mo_make x0 r42 A44 (fun (A45 : Mem) => K 0 A45)))) ∧ (x4 = 78 → kd x0 = 9 ∧ wp_Mo_look x0 (sI A x0 4 ((gI A x0 4) + 2)) (fun (r48 : Int32) (A47 : Mem) => ((r48 < 65 → wp_Mo_partMark_c281 K x0 r48 (sI A47 x0 7 1)) ∧ (¬ r48 < 65 → ((r48 ≤ 67 → wp_Mo_partMark_c281 K x0 r48 (sI A47 x0 4 ((gI A47 x0 4) + 1))) ∧ (¬ r48 ≤ 67 → wp_Mo_partMark_c281 K x0 r48 (sI A47 x0 7 1))))))))))))
def wp_Mo_partMark_c167 (K : Int32 → Mem → Prop) (x0 : Nat) (x1 : Int32) (x2 : Int32) (x3 : Int32) (x4 : Int32) (x5 : Int32) (A : Mem) : Prop := ((x5 = 0 → wp_Mo_partMark_c215 K x0 x3 x4 x5 A) ∧ (¬ x5 = 0 → ((¬ x3 = 83 → wp_Mo_partMark_c215 K x0 x3 x4 x5 A) ∧ (x3 = 83 → ((¬ x4 = 71 → wp_Mo_partMark_c215 K x0 x3 x4 x5 A) ∧ (x4 = 71 → ((x1 = 0 → kd x0 = 9 ∧ wp_Mo_takeWord x0 26 26 A (fun (r21 : Int32) (A20 : Mem) => K 103 A20)) ∧ (¬ x1 = 0 → ((x2 = 0 → kd x0 = 9 ∧ wp_Mo_takeWord x0 26 26 A (fun (r24 : Int32) (A23 : Mem) => K 103 A23)) ∧ (¬ x2 = 0 → kd x0 = 9 ∧ wp_Mo_lookAt x0 2 A (fun (r27 : Int32) (A26 : Mem) => ((r27 = 79 → wp_Mo_partMark_c215 K x0 x3 x4 x5 A26) ∧ (¬ r27 = 79 → wp_Mo_takeWord x0 26 26 A26 (fun (r30 : Int32) (A29 : Mem) => K 103 A29))))))))))))))
def wp_Mo_partMark_c137 (K : Int32 → Mem → Prop) (x0 : Nat) (x1 : Int32) (x2 : Int32) (x3 : Int32) (x4 : Int32) (x5 : Int32) (A : Mem) : Prop := ((x5 = 0 → wp_Mo_partMark_c167 K x0 x1 x2 x3 x4 x5 A) ∧ (¬ x5 = 0 → ((¬ x3 = 73 → wp_Mo_partMark_c167 K x0 x1 x2 x3 x4 x5 A) ∧ (x3 = 73 → ((¬ x4 = 78 → wp_Mo_partMark_c167 K x0 x1 x2 x3 x4 x5 A) ∧ (x4 = 78 → kd x0 = 9 ∧ wp_Mo_takeWord x0 25 25 A (fun (r18 : Int32) (A17 : Mem) => K 102 A17)))))))
def wp_Mo_partMark_c107 (K : Int32 → Mem → Prop) (x0 : Nat) (x1 : Int32) (x2 : Int32) (x3 : Int32) (x4 : Int32) (x5 : Int32) (A : Mem) : Prop := ((x5 = 0 → wp_Mo_partMark_c137 K x0 x1 x2 x3 x4 x5 A) ∧ (¬ x5 = 0 → ((¬ x3 = 65 → wp_Mo_partMark_c137 K x0 x1 x2 x3 x4 x5 A) ∧ (x3 = 65 → ((¬ x4 = 66 → wp_Mo_partMark_c137 K x0 x1 x2 x3 x4 x5 A) ∧ (x4 = 66 → kd x0 = 9 ∧ wp_Mo_takeWord x0 24 24 A (fun (r15 : Int32) (A14 : Mem) => K 101 A14)))))))
def wp_Mo_partMark_c54 (K : Int32 → Mem → Prop) (x0 : Nat) (x1 : Int32) (x2 : Int32) (x3 : Int32) (x4 : Int32) (x5 : Int32) (A : Mem) : Prop := ((¬ x3 = 40 → kd x0 = 9 ∧ wp_Mo_isMatrix x0 x3 A (fun (r11 : Bool) (A10 : Mem) => ((r11 = false → ((x3 < 48 → wp_Mo_partMark_c107 K x0 x1 x2 x3 x4 x5 A10) ∧ (¬ x3 < 48 → ((57 < x3 → wp_Mo_partMark_c107 K x0 x1 x2 x3 x4 x5 A10) ∧ (¬ 57 < x3 → wp_Mo_numeral x0 A10 (fun (A13 : Mem) => K 0 A13)))))) ∧ (r11 = true → K ((110 + x3) - 80) (sI A10 x0 4 ((gI A10 x0 4) + 1)))))) ∧ (x3 = 40 → K 100 A))
def wp_Mo_partMark_c26 (K : Int32 → Mem → Prop) (x0 : Nat) (x1 : Int32) (x2 : Int32) (x3 : Int32) (x4 : Int32) (s0 : Int32) (A : Mem) : Prop := ((¬ s0 = 0 → wp_Mo_partMark_c54 K x0 x1 x2 x3 x4 s0 A) ∧ (s0 = 0 → ((x3 = 40 → kd x0 = 9 ∧ K 0 (sI A x0 7 1)) ∧ (¬ x3 = 40 → kd x0 = 9 ∧ wp_Mo_isMatrix x0 x3 A (fun (r8 : Bool) (A7 : Mem) => ((r8 = false → wp_Mo_partMark_c54 K x0 x1 x2 x3 x4 s0 A7) ∧ (r8 = true → K 0 (sI A7 x0 7 1))))))))
def wp_Mo_partMark (o : Nat) (p1 : Int32) (p2 : Int32) (A : Mem) (K : Int32 → Mem → Prop) : Prop := kd o = 9 ∧ wp_Mo_look o A (fun (r2 : Int32) (A1 : Mem) => wp_Mo_lookAt o 1 A1 (fun (r5 : Int32) (A4 : Mem) => ((6 ≤ (gI A4 o 5) → wp_Mo_partMark_c26 K o p1 p2 r2 r5 0 A4) ∧ (¬ 6 ≤ (gI A4 o 5) → wp_Mo_partMark_c26 K o p1 p2 r2 r5 1 A4))))
set_option maxRecDepth 100000 in
set_option maxHeartbeats 4000000 in
theorem k_Mo_partMark_c281 {X : CXT} {E : EVT} {K : Int32 → Mem → Prop} (hX : Gd X E "BasicMachineModel" prog_14_method_25_code) (hR : Rm X 3 76) (hN : xnL X = 7) (hQ : QI X E K) (x0 : Nat) (x6 : Int32) (A : Mem) (h : wp_Mo_partMark_c281 K x0 x6 A) : G X E A 281 [(0, cr E x0), (6, .int (x6))] [] := by
  unfold wp_Mo_partMark_c281 at h
  refine g_aload_n (pc := 281) hX d_Mo_partMark_281 rfl 0 rfl ?_
  refine g_bipush (pc := 282) (v := 12) hX d_Mo_partMark_282 (by decide) ?_
  obtain ⟨f50, h⟩ := h
  refine g_callV_V (pc := 284) hX hR f50 cf9 rfl lk_Mo_244 mf_Mo_make (c_Mo_make _ _ _ _ h) rfl rfl rfl ⟨by decide, by decide⟩ (cat_sum _ (Nat.le_of_ble_eq_true rfl)) d_Mo_partMark_284 (fun A49 h => ?_)
  refine g_aload_n (pc := 287) hX d_Mo_partMark_287 rfl 0 rfl ?_
  refine g_iload (pc := 288) hX d_Mo_partMark_288 1 rfl ?_
  refine g_bipush (pc := 290) (v := 65) hX d_Mo_partMark_290 (by decide) ?_
  refine g_isub (pc := 292) hX d_Mo_partMark_292 ?_
  refine g_callV_V (pc := 293) hX hR f50 cf9 rfl lk_Mo_244 mf_Mo_make (c_Mo_make _ _ _ _ h) rfl rfl rfl ⟨by decide, by decide⟩ (cat_sum _ (Nat.le_of_ble_eq_true rfl)) d_Mo_partMark_293 (fun A51 h => ?_)
  refine g_bipush (pc := 296) (v := 104) hX d_Mo_partMark_296 (by decide) ?_
  refine g_iload (pc := 298) hX d_Mo_partMark_298 1 rfl ?_
  refine g_iadd (pc := 300) hX d_Mo_partMark_300 ?_
  refine g_bipush (pc := 301) (v := 65) hX d_Mo_partMark_301 (by decide) ?_
  refine g_isub (pc := 303) hX d_Mo_partMark_303 ?_
  exact g_iret hX hQ h d_Mo_partMark_304
set_option maxRecDepth 100000 in
set_option maxHeartbeats 4000000 in
theorem k_Mo_partMark_c215 {X : CXT} {E : EVT} {K : Int32 → Mem → Prop} (hX : Gd X E "BasicMachineModel" prog_14_method_25_code) (hR : Rm X 3 76) (hN : xnL X = 7) (hQ : QI X E K) (x0 : Nat) (x3 : Int32) (x4 : Int32) (x5 : Int32) (A : Mem) (h : wp_Mo_partMark_c215 K x0 x3 x4 x5 A) : G X E A 215 [(0, cr E x0), (3, .int (x3)), (4, .int (x4)), (5, .int (x5))] [] := by
  unfold wp_Mo_partMark_c215 at h
  refine g_iload (pc := 215) hX d_Mo_partMark_215 3 rfl ?_
  refine g_if_eq (pc := 217) (tgt := 305) hX d_Mo_partMark_217 (by decide) (fun q => ?_) (fun q => ?_)
  · have h := h.1 q
    refine g_aload_n (pc := 305) hX d_Mo_partMark_305 rfl 0 rfl ?_
    obtain ⟨f33, h⟩ := h
    refine g_callV_I (pc := 306) hX hR f33 cf9 rfl lk_Mo_261 mf_Mo_variable0 (c_Mo_variable0 _ _ _ h) rfl rfl rfl ⟨by decide, by decide⟩ (cat_sum _ (Nat.le_of_ble_eq_true rfl)) d_Mo_partMark_306 (fun r32 A31 h => ?_)
    refine g_istore (pc := 309) (lv0 := [(5, .int (x5)), (0, cr E x0), (3, .int (x3)), (4, .int (x4))]) hX d_Mo_partMark_309 (by rw [hN]; decide) (g_st1b (ks := [3, 0, 1, 2]) rfl rfl rfl rfl) ?_
    refine g_aload_n (pc := 311) hX d_Mo_partMark_311 rfl 2 rfl ?_
    refine g_iconst (pc := 312) (v := 1) hX d_Mo_partMark_312 (by decide) ?_
    refine g_callV_V (pc := 313) hX hR f33 cf9 rfl lk_Mo_244 mf_Mo_make (c_Mo_make _ _ _ _ h) rfl rfl rfl ⟨by decide, by decide⟩ (cat_sum _ (Nat.le_of_ble_eq_true rfl)) d_Mo_partMark_313 (fun A34 h => ?_)
    refine g_aload_n (pc := 316) hX d_Mo_partMark_316 rfl 2 rfl ?_
    refine g_iload (pc := 317) hX d_Mo_partMark_317 0 rfl ?_
    refine g_callV_V (pc := 319) hX hR f33 cf9 rfl lk_Mo_244 mf_Mo_make (c_Mo_make _ _ _ _ h) rfl rfl rfl ⟨by decide, by decide⟩ (cat_sum _ (Nat.le_of_ble_eq_true rfl)) d_Mo_partMark_319 (fun A35 h => ?_)
    refine g_iconst (pc := 322) (v := 0) hX d_Mo_partMark_322 (by decide) ?_
    exact g_iret hX hQ h d_Mo_partMark_323
  · have h := h.2 q
    refine g_iload_n (pc := 220) hX d_Mo_partMark_220 rfl 1 rfl ?_
    refine g_bipush (pc := 221) (v := 70) hX d_Mo_partMark_221 (by decide) ?_
    refine g_icmp_ne (pc := 223) (tgt := 305) hX d_Mo_partMark_223 (by decide) (fun q => ?_) (fun q => ?_)
    · have h := h.1 q
      refine g_aload_n (pc := 305) hX d_Mo_partMark_305 rfl 0 rfl ?_
      obtain ⟨f38, h⟩ := h
      refine g_callV_I (pc := 306) hX hR f38 cf9 rfl lk_Mo_261 mf_Mo_variable0 (c_Mo_variable0 _ _ _ h) rfl rfl rfl ⟨by decide, by decide⟩ (cat_sum _ (Nat.le_of_ble_eq_true rfl)) d_Mo_partMark_306 (fun r37 A36 h => ?_)
      refine g_istore (pc := 309) (lv0 := [(5, .int (x5)), (0, cr E x0), (3, .int (x3)), (4, .int (x4))]) hX d_Mo_partMark_309 (by rw [hN]; decide) (g_st1b (ks := [3, 0, 1, 2]) rfl rfl rfl rfl) ?_
      refine g_aload_n (pc := 311) hX d_Mo_partMark_311 rfl 2 rfl ?_
      refine g_iconst (pc := 312) (v := 1) hX d_Mo_partMark_312 (by decide) ?_
      refine g_callV_V (pc := 313) hX hR f38 cf9 rfl lk_Mo_244 mf_Mo_make (c_Mo_make _ _ _ _ h) rfl rfl rfl ⟨by decide, by decide⟩ (cat_sum _ (Nat.le_of_ble_eq_true rfl)) d_Mo_partMark_313 (fun A39 h => ?_)
      refine g_aload_n (pc := 316) hX d_Mo_partMark_316 rfl 2 rfl ?_
      refine g_iload (pc := 317) hX d_Mo_partMark_317 0 rfl ?_
      refine g_callV_V (pc := 319) hX hR f38 cf9 rfl lk_Mo_244 mf_Mo_make (c_Mo_make _ _ _ _ h) rfl rfl rfl ⟨by decide, by decide⟩ (cat_sum _ (Nat.le_of_ble_eq_true rfl)) d_Mo_partMark_319 (fun A40 h => ?_)
      refine g_iconst (pc := 322) (v := 0) hX d_Mo_partMark_322 (by decide) ?_
      exact g_iret hX hQ h d_Mo_partMark_323
    · have h := h.2 q
      refine g_iload (pc := 226) hX d_Mo_partMark_226 2 rfl ?_
      refine g_bipush (pc := 228) (v := 78) hX d_Mo_partMark_228 (by decide) ?_
      refine g_icmp_ne (pc := 230) (tgt := 305) hX d_Mo_partMark_230 (by decide) (fun q => ?_) (fun q => ?_)
      · have h := h.1 q
        refine g_aload_n (pc := 305) hX d_Mo_partMark_305 rfl 0 rfl ?_
        obtain ⟨f43, h⟩ := h
        refine g_callV_I (pc := 306) hX hR f43 cf9 rfl lk_Mo_261 mf_Mo_variable0 (c_Mo_variable0 _ _ _ h) rfl rfl rfl ⟨by decide, by decide⟩ (cat_sum _ (Nat.le_of_ble_eq_true rfl)) d_Mo_partMark_306 (fun r42 A41 h => ?_)
        refine g_istore (pc := 309) (lv0 := [(5, .int (x5)), (0, cr E x0), (3, .int (x3)), (4, .int (x4))]) hX d_Mo_partMark_309 (by rw [hN]; decide) (g_st1b (ks := [3, 0, 1, 2]) rfl rfl rfl rfl) ?_
        refine g_aload_n (pc := 311) hX d_Mo_partMark_311 rfl 2 rfl ?_
        refine g_iconst (pc := 312) (v := 1) hX d_Mo_partMark_312 (by decide) ?_
        refine g_callV_V (pc := 313) hX hR f43 cf9 rfl lk_Mo_244 mf_Mo_make (c_Mo_make _ _ _ _ h) rfl rfl rfl ⟨by decide, by decide⟩ (cat_sum _ (Nat.le_of_ble_eq_true rfl)) d_Mo_partMark_313 (fun A44 h => ?_)
        refine g_aload_n (pc := 316) hX d_Mo_partMark_316 rfl 2 rfl ?_
        refine g_iload (pc := 317) hX d_Mo_partMark_317 0 rfl ?_
        refine g_callV_V (pc := 319) hX hR f43 cf9 rfl lk_Mo_244 mf_Mo_make (c_Mo_make _ _ _ _ h) rfl rfl rfl ⟨by decide, by decide⟩ (cat_sum _ (Nat.le_of_ble_eq_true rfl)) d_Mo_partMark_319 (fun A45 h => ?_)
        refine g_iconst (pc := 322) (v := 0) hX d_Mo_partMark_322 (by decide) ?_
        exact g_iret hX hQ h d_Mo_partMark_323
      · have h := h.2 q
        refine g_aload_n (pc := 233) hX d_Mo_partMark_233 rfl 0 rfl ?_
        refine g_dup (pc := 234) hX d_Mo_partMark_234 (cr_cat _ _) ?_
        obtain ⟨f46, h⟩ := h
        refine g_getI (pc := 235) hX fl_Mo_22 rfl f46 d_Mo_partMark_235 ?_
        refine g_iconst (pc := 238) (v := 2) hX d_Mo_partMark_238 (by decide) ?_
        refine g_iadd (pc := 239) hX d_Mo_partMark_239 ?_
        refine g_putI (pc := 240) hX fl_Mo_22 rfl rfl rfl f46 d_Mo_partMark_240 ?_
        refine g_aload_n (pc := 243) hX d_Mo_partMark_243 rfl 0 rfl ?_
        refine g_callV_I (pc := 244) hX hR f46 cf9 rfl lk_Mo_156 mf_Mo_look (c_Mo_look _ _ _ h) rfl rfl rfl ⟨by decide, by decide⟩ (cat_sum _ (Nat.le_of_ble_eq_true rfl)) d_Mo_partMark_244 (fun r48 A47 h => ?_)
        refine g_istore (pc := 247) (lv0 := [(5, .int (x5)), (0, cr E x0), (3, .int (x3)), (4, .int (x4))]) hX d_Mo_partMark_247 (by rw [hN]; decide) (g_st1b (ks := [3, 0, 1, 2]) rfl rfl rfl rfl) ?_
        refine g_iload (pc := 249) hX d_Mo_partMark_249 0 rfl ?_
        refine g_bipush (pc := 251) (v := 65) hX d_Mo_partMark_251 (by decide) ?_
        refine g_icmp_lt (pc := 253) (tgt := 263) hX d_Mo_partMark_253 (by decide) (fun q => ?_) (fun q => ?_)
        · have h := h.1 q
          refine g_aload_n (pc := 263) hX d_Mo_partMark_263 rfl 2 rfl ?_
          refine g_iconst (pc := 264) (v := 1) hX d_Mo_partMark_264 (by decide) ?_
          refine g_putZ (pc := 265) hX (Or.inr rfl) fl_Mo_31 rfl rfl rfl f46 d_Mo_partMark_265 ?_
          refine g_goto (pc := 268) (tgt := 281) hX d_Mo_partMark_268 (by decide) ?_
          refine g_sub [2, 0] rfl ?_
          exact k_Mo_partMark_c281 hX hR hN hQ _ _ _ h
        · have h := h.2 q
          refine g_iload (pc := 256) hX d_Mo_partMark_256 0 rfl ?_
          refine g_bipush (pc := 258) (v := 67) hX d_Mo_partMark_258 (by decide) ?_
          refine g_icmp_le (pc := 260) (tgt := 271) hX d_Mo_partMark_260 (by decide) (fun q => ?_) (fun q => ?_)
          · have h := h.1 q
            refine g_aload_n (pc := 271) hX d_Mo_partMark_271 rfl 2 rfl ?_
            refine g_dup (pc := 272) hX d_Mo_partMark_272 (cr_cat _ _) ?_
            refine g_getI (pc := 273) hX fl_Mo_22 rfl f46 d_Mo_partMark_273 ?_
            refine g_iconst (pc := 276) (v := 1) hX d_Mo_partMark_276 (by decide) ?_
            refine g_iadd (pc := 277) hX d_Mo_partMark_277 ?_
            refine g_putI (pc := 278) hX fl_Mo_22 rfl rfl rfl f46 d_Mo_partMark_278 ?_
            refine g_sub [2, 0] rfl ?_
            exact k_Mo_partMark_c281 hX hR hN hQ _ _ _ h
          · have h := h.2 q
            refine g_aload_n (pc := 263) hX d_Mo_partMark_263 rfl 2 rfl ?_
            refine g_iconst (pc := 264) (v := 1) hX d_Mo_partMark_264 (by decide) ?_
            refine g_putZ (pc := 265) hX (Or.inr rfl) fl_Mo_31 rfl rfl rfl f46 d_Mo_partMark_265 ?_
            refine g_goto (pc := 268) (tgt := 281) hX d_Mo_partMark_268 (by decide) ?_
            refine g_sub [2, 0] rfl ?_
            exact k_Mo_partMark_c281 hX hR hN hQ _ _ _ h
set_option maxRecDepth 100000 in
set_option maxHeartbeats 4000000 in
theorem k_Mo_partMark_c167 {X : CXT} {E : EVT} {K : Int32 → Mem → Prop} (hX : Gd X E "BasicMachineModel" prog_14_method_25_code) (hR : Rm X 3 76) (hN : xnL X = 7) (hQ : QI X E K) (x0 : Nat) (x1 : Int32) (x2 : Int32) (x3 : Int32) (x4 : Int32) (x5 : Int32) (A : Mem) (h : wp_Mo_partMark_c167 K x0 x1 x2 x3 x4 x5 A) : G X E A 167 [(0, cr E x0), (1, .int (x1)), (2, .int (x2)), (3, .int (x3)), (4, .int (x4)), (5, .int (x5))] [] := by
  unfold wp_Mo_partMark_c167 at h
  refine g_iload (pc := 167) hX d_Mo_partMark_167 5 rfl ?_
  refine g_if_eq (pc := 169) (tgt := 215) hX d_Mo_partMark_169 (by decide) (fun q => ?_) (fun q => ?_)
  · have h := h.1 q
    refine g_sub [0, 3, 4, 5] rfl ?_
    exact k_Mo_partMark_c215 hX hR hN hQ _ _ _ _ _ h
  · have h := h.2 q
    refine g_iload_n (pc := 172) hX d_Mo_partMark_172 rfl 3 rfl ?_
    refine g_bipush (pc := 173) (v := 83) hX d_Mo_partMark_173 (by decide) ?_
    refine g_icmp_ne (pc := 175) (tgt := 215) hX d_Mo_partMark_175 (by decide) (fun q => ?_) (fun q => ?_)
    · have h := h.1 q
      refine g_sub [0, 3, 4, 5] rfl ?_
      exact k_Mo_partMark_c215 hX hR hN hQ _ _ _ _ _ h
    · have h := h.2 q
      refine g_iload (pc := 178) hX d_Mo_partMark_178 4 rfl ?_
      refine g_bipush (pc := 180) (v := 71) hX d_Mo_partMark_180 (by decide) ?_
      refine g_icmp_ne (pc := 182) (tgt := 215) hX d_Mo_partMark_182 (by decide) (fun q => ?_) (fun q => ?_)
      · have h := h.1 q
        refine g_sub [0, 3, 4, 5] rfl ?_
        exact k_Mo_partMark_c215 hX hR hN hQ _ _ _ _ _ h
      · have h := h.2 q
        refine g_iload_n (pc := 185) hX d_Mo_partMark_185 rfl 1 rfl ?_
        refine g_if_eq (pc := 186) (tgt := 203) hX d_Mo_partMark_186 (by decide) (fun q => ?_) (fun q => ?_)
        · have h := h.1 q
          refine g_aload_n (pc := 203) hX d_Mo_partMark_203 rfl 0 rfl ?_
          refine g_bipush (pc := 204) (v := 26) hX d_Mo_partMark_204 (by decide) ?_
          refine g_bipush (pc := 206) (v := 26) hX d_Mo_partMark_206 (by decide) ?_
          obtain ⟨f22, h⟩ := h
          refine g_callV_I (pc := 208) hX hR f22 cf9 rfl lk_Mo_257 mf_Mo_takeWord (c_Mo_takeWord _ _ _ _ _ h) rfl rfl rfl ⟨by decide, by decide⟩ (cat_sum _ (Nat.le_of_ble_eq_true rfl)) d_Mo_partMark_208 (fun r21 A20 h => ?_)
          refine g_pop (pc := 211) hX d_Mo_partMark_211 rfl ?_
          refine g_bipush (pc := 212) (v := 103) hX d_Mo_partMark_212 (by decide) ?_
          exact g_iret hX hQ h d_Mo_partMark_214
        · have h := h.2 q
          refine g_iload_n (pc := 189) hX d_Mo_partMark_189 rfl 2 rfl ?_
          refine g_if_eq (pc := 190) (tgt := 203) hX d_Mo_partMark_190 (by decide) (fun q => ?_) (fun q => ?_)
          · have h := h.1 q
            refine g_aload_n (pc := 203) hX d_Mo_partMark_203 rfl 0 rfl ?_
            refine g_bipush (pc := 204) (v := 26) hX d_Mo_partMark_204 (by decide) ?_
            refine g_bipush (pc := 206) (v := 26) hX d_Mo_partMark_206 (by decide) ?_
            obtain ⟨f25, h⟩ := h
            refine g_callV_I (pc := 208) hX hR f25 cf9 rfl lk_Mo_257 mf_Mo_takeWord (c_Mo_takeWord _ _ _ _ _ h) rfl rfl rfl ⟨by decide, by decide⟩ (cat_sum _ (Nat.le_of_ble_eq_true rfl)) d_Mo_partMark_208 (fun r24 A23 h => ?_)
            refine g_pop (pc := 211) hX d_Mo_partMark_211 rfl ?_
            refine g_bipush (pc := 212) (v := 103) hX d_Mo_partMark_212 (by decide) ?_
            exact g_iret hX hQ h d_Mo_partMark_214
          · have h := h.2 q
            refine g_aload_n (pc := 193) hX d_Mo_partMark_193 rfl 0 rfl ?_
            refine g_iconst (pc := 194) (v := 2) hX d_Mo_partMark_194 (by decide) ?_
            obtain ⟨f28, h⟩ := h
            refine g_callV_I (pc := 195) hX hR f28 cf9 rfl lk_Mo_230 mf_Mo_lookAt (c_Mo_lookAt _ _ _ _ h) rfl rfl rfl ⟨by decide, by decide⟩ (cat_sum _ (Nat.le_of_ble_eq_true rfl)) d_Mo_partMark_195 (fun r27 A26 h => ?_)
            refine g_bipush (pc := 198) (v := 79) hX d_Mo_partMark_198 (by decide) ?_
            refine g_icmp_eq (pc := 200) (tgt := 215) hX d_Mo_partMark_200 (by decide) (fun q => ?_) (fun q => ?_)
            · have h := h.1 q
              refine g_sub [0, 3, 4, 5] rfl ?_
              exact k_Mo_partMark_c215 hX hR hN hQ _ _ _ _ _ h
            · have h := h.2 q
              refine g_aload_n (pc := 203) hX d_Mo_partMark_203 rfl 0 rfl ?_
              refine g_bipush (pc := 204) (v := 26) hX d_Mo_partMark_204 (by decide) ?_
              refine g_bipush (pc := 206) (v := 26) hX d_Mo_partMark_206 (by decide) ?_
              refine g_callV_I (pc := 208) hX hR f28 cf9 rfl lk_Mo_257 mf_Mo_takeWord (c_Mo_takeWord _ _ _ _ _ h) rfl rfl rfl ⟨by decide, by decide⟩ (cat_sum _ (Nat.le_of_ble_eq_true rfl)) d_Mo_partMark_208 (fun r30 A29 h => ?_)
              refine g_pop (pc := 211) hX d_Mo_partMark_211 rfl ?_
              refine g_bipush (pc := 212) (v := 103) hX d_Mo_partMark_212 (by decide) ?_
              exact g_iret hX hQ h d_Mo_partMark_214
set_option maxRecDepth 100000 in
set_option maxHeartbeats 4000000 in
theorem k_Mo_partMark_c137 {X : CXT} {E : EVT} {K : Int32 → Mem → Prop} (hX : Gd X E "BasicMachineModel" prog_14_method_25_code) (hR : Rm X 3 76) (hN : xnL X = 7) (hQ : QI X E K) (x0 : Nat) (x1 : Int32) (x2 : Int32) (x3 : Int32) (x4 : Int32) (x5 : Int32) (A : Mem) (h : wp_Mo_partMark_c137 K x0 x1 x2 x3 x4 x5 A) : G X E A 137 [(0, cr E x0), (1, .int (x1)), (2, .int (x2)), (3, .int (x3)), (4, .int (x4)), (5, .int (x5))] [] := by
  unfold wp_Mo_partMark_c137 at h
  refine g_iload (pc := 137) hX d_Mo_partMark_137 5 rfl ?_
  refine g_if_eq (pc := 139) (tgt := 167) hX d_Mo_partMark_139 (by decide) (fun q => ?_) (fun q => ?_)
  · have h := h.1 q
    refine g_sub [0, 1, 2, 3, 4, 5] rfl ?_
    exact k_Mo_partMark_c167 hX hR hN hQ _ _ _ _ _ _ _ h
  · have h := h.2 q
    refine g_iload_n (pc := 142) hX d_Mo_partMark_142 rfl 3 rfl ?_
    refine g_bipush (pc := 143) (v := 73) hX d_Mo_partMark_143 (by decide) ?_
    refine g_icmp_ne (pc := 145) (tgt := 167) hX d_Mo_partMark_145 (by decide) (fun q => ?_) (fun q => ?_)
    · have h := h.1 q
      refine g_sub [0, 1, 2, 3, 4, 5] rfl ?_
      exact k_Mo_partMark_c167 hX hR hN hQ _ _ _ _ _ _ _ h
    · have h := h.2 q
      refine g_iload (pc := 148) hX d_Mo_partMark_148 4 rfl ?_
      refine g_bipush (pc := 150) (v := 78) hX d_Mo_partMark_150 (by decide) ?_
      refine g_icmp_ne (pc := 152) (tgt := 167) hX d_Mo_partMark_152 (by decide) (fun q => ?_) (fun q => ?_)
      · have h := h.1 q
        refine g_sub [0, 1, 2, 3, 4, 5] rfl ?_
        exact k_Mo_partMark_c167 hX hR hN hQ _ _ _ _ _ _ _ h
      · have h := h.2 q
        refine g_aload_n (pc := 155) hX d_Mo_partMark_155 rfl 0 rfl ?_
        refine g_bipush (pc := 156) (v := 25) hX d_Mo_partMark_156 (by decide) ?_
        refine g_bipush (pc := 158) (v := 25) hX d_Mo_partMark_158 (by decide) ?_
        obtain ⟨f19, h⟩ := h
        refine g_callV_I (pc := 160) hX hR f19 cf9 rfl lk_Mo_257 mf_Mo_takeWord (c_Mo_takeWord _ _ _ _ _ h) rfl rfl rfl ⟨by decide, by decide⟩ (cat_sum _ (Nat.le_of_ble_eq_true rfl)) d_Mo_partMark_160 (fun r18 A17 h => ?_)
        refine g_pop (pc := 163) hX d_Mo_partMark_163 rfl ?_
        refine g_bipush (pc := 164) (v := 102) hX d_Mo_partMark_164 (by decide) ?_
        exact g_iret hX hQ h d_Mo_partMark_166
set_option maxRecDepth 100000 in
set_option maxHeartbeats 4000000 in
theorem k_Mo_partMark_c107 {X : CXT} {E : EVT} {K : Int32 → Mem → Prop} (hX : Gd X E "BasicMachineModel" prog_14_method_25_code) (hR : Rm X 3 76) (hN : xnL X = 7) (hQ : QI X E K) (x0 : Nat) (x1 : Int32) (x2 : Int32) (x3 : Int32) (x4 : Int32) (x5 : Int32) (A : Mem) (h : wp_Mo_partMark_c107 K x0 x1 x2 x3 x4 x5 A) : G X E A 107 [(0, cr E x0), (1, .int (x1)), (2, .int (x2)), (3, .int (x3)), (4, .int (x4)), (5, .int (x5))] [] := by
  unfold wp_Mo_partMark_c107 at h
  refine g_iload (pc := 107) hX d_Mo_partMark_107 5 rfl ?_
  refine g_if_eq (pc := 109) (tgt := 137) hX d_Mo_partMark_109 (by decide) (fun q => ?_) (fun q => ?_)
  · have h := h.1 q
    refine g_sub [0, 1, 2, 3, 4, 5] rfl ?_
    exact k_Mo_partMark_c137 hX hR hN hQ _ _ _ _ _ _ _ h
  · have h := h.2 q
    refine g_iload_n (pc := 112) hX d_Mo_partMark_112 rfl 3 rfl ?_
    refine g_bipush (pc := 113) (v := 65) hX d_Mo_partMark_113 (by decide) ?_
    refine g_icmp_ne (pc := 115) (tgt := 137) hX d_Mo_partMark_115 (by decide) (fun q => ?_) (fun q => ?_)
    · have h := h.1 q
      refine g_sub [0, 1, 2, 3, 4, 5] rfl ?_
      exact k_Mo_partMark_c137 hX hR hN hQ _ _ _ _ _ _ _ h
    · have h := h.2 q
      refine g_iload (pc := 118) hX d_Mo_partMark_118 4 rfl ?_
      refine g_bipush (pc := 120) (v := 66) hX d_Mo_partMark_120 (by decide) ?_
      refine g_icmp_ne (pc := 122) (tgt := 137) hX d_Mo_partMark_122 (by decide) (fun q => ?_) (fun q => ?_)
      · have h := h.1 q
        refine g_sub [0, 1, 2, 3, 4, 5] rfl ?_
        exact k_Mo_partMark_c137 hX hR hN hQ _ _ _ _ _ _ _ h
      · have h := h.2 q
        refine g_aload_n (pc := 125) hX d_Mo_partMark_125 rfl 0 rfl ?_
        refine g_bipush (pc := 126) (v := 24) hX d_Mo_partMark_126 (by decide) ?_
        refine g_bipush (pc := 128) (v := 24) hX d_Mo_partMark_128 (by decide) ?_
        obtain ⟨f16, h⟩ := h
        refine g_callV_I (pc := 130) hX hR f16 cf9 rfl lk_Mo_257 mf_Mo_takeWord (c_Mo_takeWord _ _ _ _ _ h) rfl rfl rfl ⟨by decide, by decide⟩ (cat_sum _ (Nat.le_of_ble_eq_true rfl)) d_Mo_partMark_130 (fun r15 A14 h => ?_)
        refine g_pop (pc := 133) hX d_Mo_partMark_133 rfl ?_
        refine g_bipush (pc := 134) (v := 101) hX d_Mo_partMark_134 (by decide) ?_
        exact g_iret hX hQ h d_Mo_partMark_136
set_option maxRecDepth 100000 in
set_option maxHeartbeats 4000000 in
theorem k_Mo_partMark_c54 {X : CXT} {E : EVT} {K : Int32 → Mem → Prop} (hX : Gd X E "BasicMachineModel" prog_14_method_25_code) (hR : Rm X 3 76) (hN : xnL X = 7) (hQ : QI X E K) (x0 : Nat) (x1 : Int32) (x2 : Int32) (x3 : Int32) (x4 : Int32) (x5 : Int32) (A : Mem) (h : wp_Mo_partMark_c54 K x0 x1 x2 x3 x4 x5 A) : G X E A 54 [(0, cr E x0), (1, .int (x1)), (2, .int (x2)), (3, .int (x3)), (4, .int (x4)), (5, .int (x5))] [] := by
  unfold wp_Mo_partMark_c54 at h
  refine g_iload_n (pc := 54) hX d_Mo_partMark_54 rfl 3 rfl ?_
  refine g_bipush (pc := 55) (v := 40) hX d_Mo_partMark_55 (by decide) ?_
  refine g_icmp_ne (pc := 57) (tgt := 63) hX d_Mo_partMark_57 (by decide) (fun q => ?_) (fun q => ?_)
  · have h := h.1 q
    refine g_aload_n (pc := 63) hX d_Mo_partMark_63 rfl 0 rfl ?_
    refine g_iload_n (pc := 64) hX d_Mo_partMark_64 rfl 3 rfl ?_
    obtain ⟨f12, h⟩ := h
    refine g_callV_Z (pc := 65) hX hR f12 cf9 rfl lk_Mo_241 mf_Mo_isMatrix (c_Mo_isMatrix _ _ _ _ h) rfl rfl rfl ⟨by decide, by decide⟩ (cat_sum _ (Nat.le_of_ble_eq_true rfl)) d_Mo_partMark_65 (fun r11 A10 h => ?_)
    refine g_ifB_eq (pc := 68) (tgt := 89) hX d_Mo_partMark_68 (by decide) (fun q => ?_) (fun q => ?_)
    · have h := h.1 q
      refine g_iload_n (pc := 89) hX d_Mo_partMark_89 rfl 3 rfl ?_
      refine g_bipush (pc := 90) (v := 48) hX d_Mo_partMark_90 (by decide) ?_
      refine g_icmp_lt (pc := 92) (tgt := 107) hX d_Mo_partMark_92 (by decide) (fun q => ?_) (fun q => ?_)
      · have h := h.1 q
        refine g_sub [0, 1, 2, 3, 4, 5] rfl ?_
        exact k_Mo_partMark_c107 hX hR hN hQ _ _ _ _ _ _ _ h
      · have h := h.2 q
        refine g_iload_n (pc := 95) hX d_Mo_partMark_95 rfl 3 rfl ?_
        refine g_bipush (pc := 96) (v := 57) hX d_Mo_partMark_96 (by decide) ?_
        refine g_icmp_gt (pc := 98) (tgt := 107) hX d_Mo_partMark_98 (by decide) (fun q => ?_) (fun q => ?_)
        · have h := h.1 q
          refine g_sub [0, 1, 2, 3, 4, 5] rfl ?_
          exact k_Mo_partMark_c107 hX hR hN hQ _ _ _ _ _ _ _ h
        · have h := h.2 q
          refine g_aload_n (pc := 101) hX d_Mo_partMark_101 rfl 0 rfl ?_
          refine g_callV_V (pc := 102) hX hR f12 cf9 rfl lk_Mo_254 mf_Mo_numeral (c_Mo_numeral _ _ _ h) rfl rfl rfl ⟨by decide, by decide⟩ (cat_sum _ (Nat.le_of_ble_eq_true rfl)) d_Mo_partMark_102 (fun A13 h => ?_)
          refine g_iconst (pc := 105) (v := 0) hX d_Mo_partMark_105 (by decide) ?_
          exact g_iret hX hQ h d_Mo_partMark_106
    · have h := h.2 q
      refine g_aload_n (pc := 71) hX d_Mo_partMark_71 rfl 0 rfl ?_
      refine g_dup (pc := 72) hX d_Mo_partMark_72 (cr_cat _ _) ?_
      refine g_getI (pc := 73) hX fl_Mo_22 rfl f12 d_Mo_partMark_73 ?_
      refine g_iconst (pc := 76) (v := 1) hX d_Mo_partMark_76 (by decide) ?_
      refine g_iadd (pc := 77) hX d_Mo_partMark_77 ?_
      refine g_putI (pc := 78) hX fl_Mo_22 rfl rfl rfl f12 d_Mo_partMark_78 ?_
      refine g_bipush (pc := 81) (v := 110) hX d_Mo_partMark_81 (by decide) ?_
      refine g_iload_n (pc := 83) hX d_Mo_partMark_83 rfl 3 rfl ?_
      refine g_iadd (pc := 84) hX d_Mo_partMark_84 ?_
      refine g_bipush (pc := 85) (v := 80) hX d_Mo_partMark_85 (by decide) ?_
      refine g_isub (pc := 87) hX d_Mo_partMark_87 ?_
      exact g_iret hX hQ h d_Mo_partMark_88
  · have h := h.2 q
    refine g_bipush (pc := 60) (v := 100) hX d_Mo_partMark_60 (by decide) ?_
    exact g_iret hX hQ h d_Mo_partMark_62
set_option maxRecDepth 100000 in
set_option maxHeartbeats 4000000 in
theorem k_Mo_partMark_c26 {X : CXT} {E : EVT} {K : Int32 → Mem → Prop} (hX : Gd X E "BasicMachineModel" prog_14_method_25_code) (hR : Rm X 3 76) (hN : xnL X = 7) (hQ : QI X E K) (x0 : Nat) (x1 : Int32) (x2 : Int32) (x3 : Int32) (x4 : Int32) (s0 : Int32) (A : Mem) (h : wp_Mo_partMark_c26 K x0 x1 x2 x3 x4 s0 A) : G X E A 26 [(0, cr E x0), (1, .int (x1)), (2, .int (x2)), (3, .int (x3)), (4, .int (x4))] [.int (s0)] := by
  unfold wp_Mo_partMark_c26 at h
  refine g_istore (pc := 26) (lv0 := [(4, .int (x4)), (0, cr E x0), (1, .int (x1)), (2, .int (x2)), (3, .int (x3))]) hX d_Mo_partMark_26 (by rw [hN]; decide) (g_st1b (ks := [4, 0, 1, 2, 3]) rfl rfl rfl rfl) ?_
  refine g_iload (pc := 28) hX d_Mo_partMark_28 0 rfl ?_
  refine g_if_ne (pc := 30) (tgt := 54) hX d_Mo_partMark_30 (by decide) (fun q => ?_) (fun q => ?_)
  · have h := h.1 q
    refine g_sub [2, 3, 4, 5, 1, 0] rfl ?_
    exact k_Mo_partMark_c54 hX hR hN hQ _ _ _ _ _ _ _ h
  · have h := h.2 q
    refine g_iload_n (pc := 33) hX d_Mo_partMark_33 rfl 5 rfl ?_
    refine g_bipush (pc := 34) (v := 40) hX d_Mo_partMark_34 (by decide) ?_
    refine g_icmp_eq (pc := 36) (tgt := 47) hX d_Mo_partMark_36 (by decide) (fun q => ?_) (fun q => ?_)
    · have h := h.1 q
      refine g_aload_n (pc := 47) hX d_Mo_partMark_47 rfl 2 rfl ?_
      refine g_iconst (pc := 48) (v := 1) hX d_Mo_partMark_48 (by decide) ?_
      obtain ⟨f6, h⟩ := h
      refine g_putZ (pc := 49) hX (Or.inr rfl) fl_Mo_31 rfl rfl rfl f6 d_Mo_partMark_49 ?_
      refine g_iconst (pc := 52) (v := 0) hX d_Mo_partMark_52 (by decide) ?_
      exact g_iret hX hQ h d_Mo_partMark_53
    · have h := h.2 q
      refine g_aload_n (pc := 39) hX d_Mo_partMark_39 rfl 2 rfl ?_
      refine g_iload_n (pc := 40) hX d_Mo_partMark_40 rfl 5 rfl ?_
      obtain ⟨f9, h⟩ := h
      refine g_callV_Z (pc := 41) hX hR f9 cf9 rfl lk_Mo_241 mf_Mo_isMatrix (c_Mo_isMatrix _ _ _ _ h) rfl rfl rfl ⟨by decide, by decide⟩ (cat_sum _ (Nat.le_of_ble_eq_true rfl)) d_Mo_partMark_41 (fun r8 A7 h => ?_)
      refine g_ifB_eq (pc := 44) (tgt := 54) hX d_Mo_partMark_44 (by decide) (fun q => ?_) (fun q => ?_)
      · have h := h.1 q
        refine g_sub [2, 3, 4, 5, 1, 0] rfl ?_
        exact k_Mo_partMark_c54 hX hR hN hQ _ _ _ _ _ _ _ h
      · have h := h.2 q
        refine g_aload_n (pc := 47) hX d_Mo_partMark_47 rfl 2 rfl ?_
        refine g_iconst (pc := 48) (v := 1) hX d_Mo_partMark_48 (by decide) ?_
        refine g_putZ (pc := 49) hX (Or.inr rfl) fl_Mo_31 rfl rfl rfl f9 d_Mo_partMark_49 ?_
        refine g_iconst (pc := 52) (v := 0) hX d_Mo_partMark_52 (by decide) ?_
        exact g_iret hX hQ h d_Mo_partMark_53
set_option maxRecDepth 100000 in
set_option maxHeartbeats 4000000 in
theorem c_Mo_partMark (o : Nat) (p1 : Int32) (p2 : Int32) (A : Mem) (K : Int32 → Mem → Prop) (h : wp_Mo_partMark o p1 p2 A K) : CtI y_Mo_partMark prog_14_method_25_code 7 3 76 (fun E => [cr E o, .int (p1), .int (p2)]) A K := by
  refine ctI_of "BasicMachineModel" (by decide) rfl (fun E => [(0, cr E o), (1, .int (p1)), (2, .int (p2))]) (fun E => by simp [lg_sl, cr_cat, ca_i, ca_l, ca_d]) (fun E => by simp [lv_args, cr_cat, ca_i, ca_l, ca_d]) (fun X E hX hR hN hQ => ?_)
  unfold wp_Mo_partMark at h
  refine g_aload_n (pc := 0) hX d_Mo_partMark_0 rfl 0 rfl ?_
  obtain ⟨f3, h⟩ := h
  refine g_callV_I (pc := 1) hX hR f3 cf9 rfl lk_Mo_156 mf_Mo_look (c_Mo_look _ _ _ h) rfl rfl rfl ⟨by decide, by decide⟩ (cat_sum _ (Nat.le_of_ble_eq_true rfl)) d_Mo_partMark_1 (fun r2 A1 h => ?_)
  refine g_istore_n (pc := 4) (lv0 := [(2, .int (p2)), (0, cr E o), (1, .int (p1))]) hX d_Mo_partMark_4 rfl (by rw [hN]; decide) (g_st1b (ks := [2, 0, 1]) rfl rfl rfl rfl) ?_
  refine g_aload_n (pc := 5) hX d_Mo_partMark_5 rfl 2 rfl ?_
  refine g_iconst (pc := 6) (v := 1) hX d_Mo_partMark_6 (by decide) ?_
  refine g_callV_I (pc := 7) hX hR f3 cf9 rfl lk_Mo_230 mf_Mo_lookAt (c_Mo_lookAt _ _ _ _ h) rfl rfl rfl ⟨by decide, by decide⟩ (cat_sum _ (Nat.le_of_ble_eq_true rfl)) d_Mo_partMark_7 (fun r5 A4 h => ?_)
  refine g_istore (pc := 10) (lv0 := [(3, .int (r2)), (2, .int (p2)), (0, cr E o), (1, .int (p1))]) hX d_Mo_partMark_10 (by rw [hN]; decide) (g_st1b (ks := [0, 1, 2, 3]) rfl rfl rfl rfl) ?_
  refine g_aload_n (pc := 12) hX d_Mo_partMark_12 rfl 3 rfl ?_
  refine g_getI (pc := 13) hX fl_Mo_25 rfl f3 d_Mo_partMark_13 ?_
  refine g_bipush (pc := 16) (v := 6) hX d_Mo_partMark_16 (by decide) ?_
  refine g_icmp_ge (pc := 18) (tgt := 25) hX d_Mo_partMark_18 (by decide) (fun q => ?_) (fun q => ?_)
  · have h := h.1 q
    refine g_iconst (pc := 25) (v := 0) hX d_Mo_partMark_25 (by decide) ?_
    refine g_sub [3, 4, 2, 1, 0] rfl ?_
    exact k_Mo_partMark_c26 hX hR hN hQ _ _ _ _ _ _ _ h
  · have h := h.2 q
    refine g_iconst (pc := 21) (v := 1) hX d_Mo_partMark_21 (by decide) ?_
    refine g_goto (pc := 22) (tgt := 26) hX d_Mo_partMark_22 (by decide) ?_
    refine g_sub [3, 4, 2, 1, 0] rfl ?_
    exact k_Mo_partMark_c26 hX hR hN hQ _ _ _ _ _ _ _ h
def wp_Mo_closeMark (o : Nat) (p1 : Int32) (A : Mem) (K : Mem → Prop) : Prop := ((¬ p1 = 100 → ((104 ≤ p1 → ((110 ≤ p1 → kd o = 9 ∧ wp_Mo_make o 2 A (fun (A1 : Mem) => wp_Mo_make o (p1 - 120) A1 (fun (A3 : Mem) => K A3))) ∧ (¬ 110 ≤ p1 → kd o = 9 ∧ wp_Mo_make o 13 A (fun (A4 : Mem) => wp_Mo_make o (p1 - 104) A4 (fun (A6 : Mem) => K A6))))) ∧ (¬ 104 ≤ p1 → kd o = 9 ∧ wp_Mo_make o ((9 + p1) - 101) A (fun (A7 : Mem) => K A7)))) ∧ (p1 = 100 → K A))
set_option maxRecDepth 100000 in
set_option maxHeartbeats 4000000 in
theorem c_Mo_closeMark (o : Nat) (p1 : Int32) (A : Mem) (K : Mem → Prop) (h : wp_Mo_closeMark o p1 A K) : CtV y_Mo_closeMark prog_14_method_26_code 2 1 21 (fun E => [cr E o, .int (p1)]) A K := by
  refine ctV_of "BasicMachineModel" (by decide) rfl (fun E => [(0, cr E o), (1, .int (p1))]) (fun E => by simp [lg_sl, cr_cat, ca_i, ca_l, ca_d]) (fun E => by simp [lv_args, cr_cat, ca_i, ca_l, ca_d]) (fun X E hX hR hN hQ => ?_)
  unfold wp_Mo_closeMark at h
  refine g_iload_n (pc := 0) hX d_Mo_closeMark_0 rfl 1 rfl ?_
  refine g_bipush (pc := 1) (v := 100) hX d_Mo_closeMark_1 (by decide) ?_
  refine g_icmp_ne (pc := 3) (tgt := 7) hX d_Mo_closeMark_3 (by decide) (fun q => ?_) (fun q => ?_)
  · have h := h.1 q
    refine g_iload_n (pc := 7) hX d_Mo_closeMark_7 rfl 1 rfl ?_
    refine g_bipush (pc := 8) (v := 104) hX d_Mo_closeMark_8 (by decide) ?_
    refine g_icmp_ge (pc := 10) (tgt := 27) hX d_Mo_closeMark_10 (by decide) (fun q => ?_) (fun q => ?_)
    · have h := h.1 q
      refine g_iload_n (pc := 27) hX d_Mo_closeMark_27 rfl 1 rfl ?_
      refine g_bipush (pc := 28) (v := 110) hX d_Mo_closeMark_28 (by decide) ?_
      refine g_icmp_ge (pc := 30) (tgt := 50) hX d_Mo_closeMark_30 (by decide) (fun q => ?_) (fun q => ?_)
      · have h := h.1 q
        refine g_aload_n (pc := 50) hX d_Mo_closeMark_50 rfl 0 rfl ?_
        refine g_iconst (pc := 51) (v := 2) hX d_Mo_closeMark_51 (by decide) ?_
        obtain ⟨f2, h⟩ := h
        refine g_callV_V (pc := 52) hX hR f2 cf9 rfl lk_Mo_244 mf_Mo_make (c_Mo_make _ _ _ _ h) rfl rfl rfl ⟨by decide, by decide⟩ (cat_sum _ (Nat.le_of_ble_eq_true rfl)) d_Mo_closeMark_52 (fun A1 h => ?_)
        refine g_aload_n (pc := 55) hX d_Mo_closeMark_55 rfl 0 rfl ?_
        refine g_iload_n (pc := 56) hX d_Mo_closeMark_56 rfl 1 rfl ?_
        refine g_bipush (pc := 57) (v := 120) hX d_Mo_closeMark_57 (by decide) ?_
        refine g_isub (pc := 59) hX d_Mo_closeMark_59 ?_
        refine g_callV_V (pc := 60) hX hR f2 cf9 rfl lk_Mo_244 mf_Mo_make (c_Mo_make _ _ _ _ h) rfl rfl rfl ⟨by decide, by decide⟩ (cat_sum _ (Nat.le_of_ble_eq_true rfl)) d_Mo_closeMark_60 (fun A3 h => ?_)
        exact g_vret hX hQ h d_Mo_closeMark_63
      · have h := h.2 q
        refine g_aload_n (pc := 33) hX d_Mo_closeMark_33 rfl 0 rfl ?_
        refine g_bipush (pc := 34) (v := 13) hX d_Mo_closeMark_34 (by decide) ?_
        obtain ⟨f5, h⟩ := h
        refine g_callV_V (pc := 36) hX hR f5 cf9 rfl lk_Mo_244 mf_Mo_make (c_Mo_make _ _ _ _ h) rfl rfl rfl ⟨by decide, by decide⟩ (cat_sum _ (Nat.le_of_ble_eq_true rfl)) d_Mo_closeMark_36 (fun A4 h => ?_)
        refine g_aload_n (pc := 39) hX d_Mo_closeMark_39 rfl 0 rfl ?_
        refine g_iload_n (pc := 40) hX d_Mo_closeMark_40 rfl 1 rfl ?_
        refine g_bipush (pc := 41) (v := 104) hX d_Mo_closeMark_41 (by decide) ?_
        refine g_isub (pc := 43) hX d_Mo_closeMark_43 ?_
        refine g_callV_V (pc := 44) hX hR f5 cf9 rfl lk_Mo_244 mf_Mo_make (c_Mo_make _ _ _ _ h) rfl rfl rfl ⟨by decide, by decide⟩ (cat_sum _ (Nat.le_of_ble_eq_true rfl)) d_Mo_closeMark_44 (fun A6 h => ?_)
        refine g_goto (pc := 47) (tgt := 63) hX d_Mo_closeMark_47 (by decide) ?_
        exact g_vret hX hQ h d_Mo_closeMark_63
    · have h := h.2 q
      refine g_aload_n (pc := 13) hX d_Mo_closeMark_13 rfl 0 rfl ?_
      refine g_bipush (pc := 14) (v := 9) hX d_Mo_closeMark_14 (by decide) ?_
      refine g_iload_n (pc := 16) hX d_Mo_closeMark_16 rfl 1 rfl ?_
      refine g_iadd (pc := 17) hX d_Mo_closeMark_17 ?_
      refine g_bipush (pc := 18) (v := 101) hX d_Mo_closeMark_18 (by decide) ?_
      refine g_isub (pc := 20) hX d_Mo_closeMark_20 ?_
      obtain ⟨f8, h⟩ := h
      refine g_callV_V (pc := 21) hX hR f8 cf9 rfl lk_Mo_244 mf_Mo_make (c_Mo_make _ _ _ _ h) rfl rfl rfl ⟨by decide, by decide⟩ (cat_sum _ (Nat.le_of_ble_eq_true rfl)) d_Mo_closeMark_21 (fun A7 h => ?_)
      refine g_goto (pc := 24) (tgt := 63) hX d_Mo_closeMark_24 (by decide) ?_
      exact g_vret hX hQ h d_Mo_closeMark_63
  · have h := h.2 q
    exact g_vret hX hQ h d_Mo_closeMark_6
def wp_Mo_operator (o : Nat) (p1 : Int32) (A : Mem) (K : Int32 → Mem → Prop) : Prop := ((¬ p1 = 43 → ((¬ p1 = 45 → ((¬ p1 = 42 → ((¬ p1 = 47 → ((¬ p1 = 94 → K 0 A) ∧ (p1 = 94 → K 7 A))) ∧ (p1 = 47 → K 6 A))) ∧ (p1 = 42 → K 5 A))) ∧ (p1 = 45 → K 4 A))) ∧ (p1 = 43 → K 3 A))
set_option maxRecDepth 100000 in
set_option maxHeartbeats 4000000 in
theorem c_Mo_operator (o : Nat) (p1 : Int32) (A : Mem) (K : Int32 → Mem → Prop) (h : wp_Mo_operator o p1 A K) : CtI y_Mo_operator prog_14_method_27_code 2 0 0 (fun E => [cr E o, .int (p1)]) A K := by
  refine ctI_of "BasicMachineModel" (by decide) rfl (fun E => [(0, cr E o), (1, .int (p1))]) (fun E => by simp [lg_sl, cr_cat, ca_i, ca_l, ca_d]) (fun E => by simp [lv_args, cr_cat, ca_i, ca_l, ca_d]) (fun X E hX hR hN hQ => ?_)
  unfold wp_Mo_operator at h
  refine g_iload_n (pc := 0) hX d_Mo_operator_0 rfl 1 rfl ?_
  refine g_bipush (pc := 1) (v := 43) hX d_Mo_operator_1 (by decide) ?_
  refine g_icmp_ne (pc := 3) (tgt := 10) hX d_Mo_operator_3 (by decide) (fun q => ?_) (fun q => ?_)
  · have h := h.1 q
    refine g_iload_n (pc := 10) hX d_Mo_operator_10 rfl 1 rfl ?_
    refine g_bipush (pc := 11) (v := 45) hX d_Mo_operator_11 (by decide) ?_
    refine g_icmp_ne (pc := 13) (tgt := 20) hX d_Mo_operator_13 (by decide) (fun q => ?_) (fun q => ?_)
    · have h := h.1 q
      refine g_iload_n (pc := 20) hX d_Mo_operator_20 rfl 1 rfl ?_
      refine g_bipush (pc := 21) (v := 42) hX d_Mo_operator_21 (by decide) ?_
      refine g_icmp_ne (pc := 23) (tgt := 30) hX d_Mo_operator_23 (by decide) (fun q => ?_) (fun q => ?_)
      · have h := h.1 q
        refine g_iload_n (pc := 30) hX d_Mo_operator_30 rfl 1 rfl ?_
        refine g_bipush (pc := 31) (v := 47) hX d_Mo_operator_31 (by decide) ?_
        refine g_icmp_ne (pc := 33) (tgt := 41) hX d_Mo_operator_33 (by decide) (fun q => ?_) (fun q => ?_)
        · have h := h.1 q
          refine g_iload_n (pc := 41) hX d_Mo_operator_41 rfl 1 rfl ?_
          refine g_bipush (pc := 42) (v := 94) hX d_Mo_operator_42 (by decide) ?_
          refine g_icmp_ne (pc := 44) (tgt := 52) hX d_Mo_operator_44 (by decide) (fun q => ?_) (fun q => ?_)
          · have h := h.1 q
            refine g_iconst (pc := 52) (v := 0) hX d_Mo_operator_52 (by decide) ?_
            exact g_iret hX hQ h d_Mo_operator_53
          · have h := h.2 q
            refine g_bipush (pc := 47) (v := 7) hX d_Mo_operator_47 (by decide) ?_
            refine g_goto (pc := 49) (tgt := 53) hX d_Mo_operator_49 (by decide) ?_
            exact g_iret hX hQ h d_Mo_operator_53
        · have h := h.2 q
          refine g_bipush (pc := 36) (v := 6) hX d_Mo_operator_36 (by decide) ?_
          refine g_goto (pc := 38) (tgt := 53) hX d_Mo_operator_38 (by decide) ?_
          exact g_iret hX hQ h d_Mo_operator_53
      · have h := h.2 q
        refine g_iconst (pc := 26) (v := 5) hX d_Mo_operator_26 (by decide) ?_
        refine g_goto (pc := 27) (tgt := 53) hX d_Mo_operator_27 (by decide) ?_
        exact g_iret hX hQ h d_Mo_operator_53
    · have h := h.2 q
      refine g_iconst (pc := 16) (v := 4) hX d_Mo_operator_16 (by decide) ?_
      refine g_goto (pc := 17) (tgt := 53) hX d_Mo_operator_17 (by decide) ?_
      exact g_iret hX hQ h d_Mo_operator_53
  · have h := h.2 q
    refine g_iconst (pc := 6) (v := 3) hX d_Mo_operator_6 (by decide) ?_
    refine g_goto (pc := 7) (tgt := 53) hX d_Mo_operator_7 (by decide) ?_
    exact g_iret hX hQ h d_Mo_operator_53
def wp_Mo_expression_c278 (K : Int32 → Mem → Prop) (x0 : Nat) (x2 : Int32) (x3 : Int32) (A : Mem) : Prop := kd x0 = 9 ∧ wp_Mo_settle x0 x3 1 (sI A x0 7 1) (fun (r29 : Int32) (A28 : Mem) => wp_Mo_make x0 14 A28 (fun (A30 : Mem) => K x2 A30))
def wp_Mo_expression_c253 (J16 : Nat → Int32 → Int32 → Int32 → Int32 → Int32 → Int32 → Mem → Prop) (K : Int32 → Mem → Prop) (x0 : Nat) (x1 : Int32) (x2 : Int32) (x3 : Int32) (x4 : Int32) (x5 : Int32) (x6 : Int32) (x9 : Int32) (A : Mem) : Prop := kd x0 = 9 ∧ wp_Mo_closeMark x0 x9 A (fun (A31 : Mem) => J16 x0 x1 x2 (x3 + (-1)) (x4 + (-1)) x5 x6 (sI (sI A31 x0 5 ((gI A31 x0 5) - 1)) x0 4 ((gI (sI A31 x0 5 ((gI A31 x0 5) - 1)) x0 4) + 1)))
def wp_Mo_expression_c232 (J16 : Nat → Int32 → Int32 → Int32 → Int32 → Int32 → Int32 → Mem → Prop) (K : Int32 → Mem → Prop) (x0 : Nat) (x1 : Int32) (x2 : Int32) (x3 : Int32) (x4 : Int32) (x5 : Int32) (x6 : Int32) (x7 : Int32) (x9 : Int32) (A : Mem) : Prop := ((¬ x7 = 41 → wp_Mo_expression_c278 K x0 x2 x3 A) ∧ (x7 = 41 → ((x9 < 110 → wp_Mo_expression_c253 J16 K x0 x1 x2 x3 x4 x5 x6 x9 A) ∧ (¬ x9 < 110 → ((x9 ≤ 119 → wp_Mo_expression_c278 K x0 x2 x3 A) ∧ (¬ x9 ≤ 119 → wp_Mo_expression_c253 J16 K x0 x1 x2 x3 x4 x5 x6 x9 A))))))
def wp_Mo_expression_c88 (J16 : Nat → Int32 → Int32 → Int32 → Int32 → Int32 → Int32 → Mem → Prop) (K : Int32 → Mem → Prop) (x0 : Nat) (x1 : Int32) (x2 : Int32) (x3 : Int32) (x4 : Int32) (x5 : Int32) (x6 : Int32) (s0 : Int32) (s1 : Int32) (s2 : Nat) (A : Mem) : Prop := kd s2 = 9 ∧ wp_Mo_partMark s2 s1 s0 A (fun (r34 : Int32) (A33 : Mem) => ((¬ r34 = 0 → kd x0 = 9 ∧ wp_Mo_bracket x0 A33 (fun (A36 : Mem) => kd (gR A36 x0 15) = 51 ∧ vp_in x3 (al (gR A36 x0 15)) ∧ J16 x0 x1 x2 (x3 + 1) (x4 + 1) x5 1 (sI A36 (gR A36 x0 15) (Int32.toNatClampNeg x3) r34))) ∧ (r34 = 0 → J16 x0 x1 x2 x3 x4 0 x6 A33)))
def wp_Mo_expression_c16 (K : Int32 → Mem → Prop) : Nat → Nat → Int32 → Int32 → Int32 → Int32 → Int32 → Int32 → Mem → Prop
  | 0, _, _, _, _, _, _, _, _ => False
  | n + 1, x0, x1, x2, x3, x4, x5, x6, A => kd x0 = 9 ∧ ((¬ (gI A x0 7) = 0 → wp_Mo_settle x0 x3 1 A (fun (r4 : Int32) (A3 : Mem) => wp_Mo_make x0 14 A3 (fun (A5 : Mem) => K x2 A5))) ∧ ((gI A x0 7) = 0 → wp_Mo_look x0 A (fun (r7 : Int32) (A6 : Mem) => ((x5 = 0 → wp_Mo_operator x0 r7 A6 (fun (r9 : Int32) (A8 : Mem) => ((r9 ≤ 0 → ((¬ x4 = 0 → wp_Mo_settle x0 x3 1 A8 (fun (r11 : Int32) (A10 : Mem) => kd (gR A10 x0 15) = 51 ∧ vp_in (r11 - 1) (al (gR A10 x0 15)) ∧ ((¬ r7 = 44 → wp_Mo_expression_c232 (wp_Mo_expression_c16 K n) K x0 x1 x2 r11 x4 x5 x6 r7 (gI A10 (gR A10 x0 15) (Int32.toNatClampNeg (r11 - 1))) A10) ∧ (r7 = 44 → (((gI A10 (gR A10 x0 15) (Int32.toNatClampNeg (r11 - 1))) ≤ 109 → wp_Mo_expression_c232 (wp_Mo_expression_c16 K n) K x0 x1 x2 r11 x4 x5 x6 r7 (gI A10 (gR A10 x0 15) (Int32.toNatClampNeg (r11 - 1))) A10) ∧ (¬ (gI A10 (gR A10 x0 15) (Int32.toNatClampNeg (r11 - 1))) ≤ 109 → ((120 ≤ (gI A10 (gR A10 x0 15) (Int32.toNatClampNeg (r11 - 1))) → wp_Mo_expression_c232 (wp_Mo_expression_c16 K n) K x0 x1 x2 r11 x4 x5 x6 r7 (gI A10 (gR A10 x0 15) (Int32.toNatClampNeg (r11 - 1))) A10) ∧ (¬ 120 ≤ (gI A10 (gR A10 x0 15) (Int32.toNatClampNeg (r11 - 1))) → ∀ A14 : Mem, A14 = (sI A10 (gR A10 x0 15) (Int32.toNatClampNeg (r11 - 1)) ((gI A10 (gR A10 x0 15) (Int32.toNatClampNeg (r11 - 1))) + 10)) → wp_Mo_expression_c16 K n x0 x1 x2 r11 x4 1 1 (sI A14 x0 4 ((gI A14 x0 4) + 1)))))))))) ∧ (x4 = 0 → wp_Mo_settle x0 x3 1 A8 (fun (r16 : Int32) (A15 : Mem) => wp_Mo_make x0 14 A15 (fun (A17 : Mem) => K x2 A17))))) ∧ (¬ r9 ≤ 0 → wp_Mo_rank x0 r9 A8 (fun (r19 : Int32) (A18 : Mem) => wp_Mo_settle x0 x3 r19 A18 (fun (r21 : Int32) (A20 : Mem) => kd (gR A20 x0 15) = 51 ∧ vp_in r21 (al (gR A20 x0 15)) ∧ ∀ A24 : Mem, A24 = (sI (sI A20 (gR A20 x0 15) (Int32.toNatClampNeg r21) r9) x0 4 ((gI (sI A20 (gR A20 x0 15) (Int32.toNatClampNeg r21) r9) x0 4) + 1)) → wp_Mo_expression_c16 K n x0 x1 x2 (r21 + 1) x4 1 x6 A24)))))) ∧ (¬ x5 = 0 → ((x6 = 0 → ((¬ x4 = 0 → wp_Mo_expression_c88 (wp_Mo_expression_c16 K n) K x0 x1 x2 x3 x4 x5 0 0 x1 x0 A6) ∧ (x4 = 0 → wp_Mo_expression_c88 (wp_Mo_expression_c16 K n) K x0 x1 x2 x3 x4 x5 0 1 x1 x0 A6))) ∧ (¬ x6 = 0 → ((¬ r7 = 45 → ((¬ x4 = 0 → wp_Mo_expression_c88 (wp_Mo_expression_c16 K n) K x0 x1 x2 x3 x4 x5 0 0 x1 x0 A6) ∧ (x4 = 0 → wp_Mo_expression_c88 (wp_Mo_expression_c16 K n) K x0 x1 x2 x3 x4 x5 0 1 x1 x0 A6))) ∧ (r7 = 45 → kd (gR (sI A6 x0 4 ((gI A6 x0 4) + 1)) x0 15) = 51 ∧ vp_in x3 (al (gR (sI A6 x0 4 ((gI A6 x0 4) + 1)) x0 15)) ∧ wp_Mo_expression_c16 K n x0 x1 x2 (x3 + 1) x4 x5 0 (sI (sI A6 x0 4 ((gI A6 x0 4) + 1)) (gR (sI A6 x0 4 ((gI A6 x0 4) + 1)) x0 15) (Int32.toNatClampNeg x3) 8))))))))))
def wp_Mo_expression (o : Nat) (p1 : Int32) (A : Mem) (K : Int32 → Mem → Prop) : Prop := kd o = 9 ∧ (∃ n9 : Nat, wp_Mo_expression_c16 K n9 o p1 (gI A o 6) 0 0 1 1 A)
set_option maxRecDepth 100000 in
set_option maxHeartbeats 4000000 in
theorem k_Mo_expression_c278 {X : CXT} {E : EVT} {K : Int32 → Mem → Prop} (hX : Gd X E "BasicMachineModel" prog_14_method_28_code) (hR : Rm X 4 102) (hN : xnL X = 10) (hQ : QI X E K) (x0 : Nat) (x2 : Int32) (x3 : Int32) (A : Mem) (h : wp_Mo_expression_c278 K x0 x2 x3 A) : G X E A 278 [(0, cr E x0), (2, .int (x2)), (3, .int (x3))] [] := by
  unfold wp_Mo_expression_c278 at h
  refine g_aload_n (pc := 278) hX d_Mo_expression_278 rfl 0 rfl ?_
  refine g_iconst (pc := 279) (v := 1) hX d_Mo_expression_279 (by decide) ?_
  obtain ⟨f27, h⟩ := h
  refine g_putZ (pc := 280) hX (Or.inr rfl) fl_Mo_31 rfl rfl rfl f27 d_Mo_expression_280 ?_
  refine g_goto (pc := 283) (tgt := 318) hX d_Mo_expression_283 (by decide) ?_
  refine g_aload_n (pc := 318) hX d_Mo_expression_318 rfl 0 rfl ?_
  refine g_iload_n (pc := 319) hX d_Mo_expression_319 rfl 2 rfl ?_
  refine g_iconst (pc := 320) (v := 1) hX d_Mo_expression_320 (by decide) ?_
  refine g_callV_I (pc := 321) hX hR f27 cf9 rfl lk_Mo_273 mf_Mo_settle (c_Mo_settle _ _ _ _ _ h) rfl rfl rfl ⟨by decide, by decide⟩ (cat_sum _ (Nat.le_of_ble_eq_true rfl)) d_Mo_expression_321 (fun r29 A28 h => ?_)
  refine g_istore_n (pc := 324) (lv0 := [(2, .int (x2)), (0, cr E x0)]) hX d_Mo_expression_324 rfl (by rw [hN]; decide) (g_st1b (ks := [1, 0]) rfl rfl rfl rfl) ?_
  refine g_aload_n (pc := 325) hX d_Mo_expression_325 rfl 2 rfl ?_
  refine g_bipush (pc := 326) (v := 14) hX d_Mo_expression_326 (by decide) ?_
  refine g_callV_V (pc := 328) hX hR f27 cf9 rfl lk_Mo_244 mf_Mo_make (c_Mo_make _ _ _ _ h) rfl rfl rfl ⟨by decide, by decide⟩ (cat_sum _ (Nat.le_of_ble_eq_true rfl)) d_Mo_expression_328 (fun A30 h => ?_)
  refine g_iload_n (pc := 331) hX d_Mo_expression_331 rfl 1 rfl ?_
  exact g_iret hX hQ h d_Mo_expression_332
set_option maxRecDepth 100000 in
set_option maxHeartbeats 4000000 in
theorem k_Mo_expression_c253 {X : CXT} {E : EVT} {K : Int32 → Mem → Prop} {J16 : Nat → Int32 → Int32 → Int32 → Int32 → Int32 → Int32 → Mem → Prop} (hX : Gd X E "BasicMachineModel" prog_14_method_28_code) (hR : Rm X 4 102) (hN : xnL X = 10) (hQ : QI X E K) (hJ16 : ∀ (x0 : Nat) (x1 : Int32) (x2 : Int32) (x3 : Int32) (x4 : Int32) (x5 : Int32) (x6 : Int32) (A : Mem), J16 x0 x1 x2 x3 x4 x5 x6 A → G X E A 16 [(0, cr E x0), (1, .int (x1)), (2, .int (x2)), (3, .int (x3)), (4, .int (x4)), (5, .int (x5)), (6, .int (x6))] []) (x0 : Nat) (x1 : Int32) (x2 : Int32) (x3 : Int32) (x4 : Int32) (x5 : Int32) (x6 : Int32) (x9 : Int32) (A : Mem) (h : wp_Mo_expression_c253 J16 K x0 x1 x2 x3 x4 x5 x6 x9 A) : G X E A 253 [(0, cr E x0), (1, .int (x1)), (2, .int (x2)), (3, .int (x3)), (4, .int (x4)), (5, .int (x5)), (6, .int (x6)), (9, .int (x9))] [] := by
  unfold wp_Mo_expression_c253 at h
  refine g_aload_n (pc := 253) hX d_Mo_expression_253 rfl 0 rfl ?_
  refine g_iload (pc := 254) hX d_Mo_expression_254 7 rfl ?_
  obtain ⟨f32, h⟩ := h
  refine g_callV_V (pc := 256) hX hR f32 cf9 rfl lk_Mo_276 mf_Mo_closeMark (c_Mo_closeMark _ _ _ _ h) rfl rfl rfl ⟨by decide, by decide⟩ (cat_sum _ (Nat.le_of_ble_eq_true rfl)) d_Mo_expression_256 (fun A31 h => ?_)
  refine g_iinc (pc := 259) (v := (x3 + (-1))) (lv0 := [(2, .int (x2)), (0, cr E x0), (1, .int (x1)), (4, .int (x4)), (5, .int (x5)), (6, .int (x6)), (9, .int (x9))]) hX d_Mo_expression_259 3 rfl rfl (by rw [hN]; decide) (g_st1b (ks := [2, 0, 1, 4, 5, 6, 7]) rfl rfl rfl rfl) ?_
  refine g_iinc (pc := 262) (v := (x4 + (-1))) (lv0 := [(3, .int ((x3 + (-1)))), (2, .int (x2)), (0, cr E x0), (1, .int (x1)), (5, .int (x5)), (6, .int (x6)), (9, .int (x9))]) hX d_Mo_expression_262 4 rfl rfl (by rw [hN]; decide) (g_st1b (ks := [0, 1, 2, 3, 5, 6, 7]) rfl rfl rfl rfl) ?_
  refine g_aload_n (pc := 265) hX d_Mo_expression_265 rfl 3 rfl ?_
  refine g_dup (pc := 266) hX d_Mo_expression_266 (cr_cat _ _) ?_
  refine g_getI (pc := 267) hX fl_Mo_25 rfl f32 d_Mo_expression_267 ?_
  refine g_iconst (pc := 270) (v := 1) hX d_Mo_expression_270 (by decide) ?_
  refine g_isub (pc := 271) hX d_Mo_expression_271 ?_
  refine g_putI (pc := 272) hX fl_Mo_25 rfl rfl rfl f32 d_Mo_expression_272 ?_
  refine g_goto (pc := 275) (tgt := 286) hX d_Mo_expression_275 (by decide) ?_
  refine g_aload_n (pc := 286) hX d_Mo_expression_286 rfl 3 rfl ?_
  refine g_dup (pc := 287) hX d_Mo_expression_287 (cr_cat _ _) ?_
  refine g_getI (pc := 288) hX fl_Mo_22 rfl f32 d_Mo_expression_288 ?_
  refine g_iconst (pc := 291) (v := 1) hX d_Mo_expression_291 (by decide) ?_
  refine g_iadd (pc := 292) hX d_Mo_expression_292 ?_
  refine g_putI (pc := 293) hX fl_Mo_22 rfl rfl rfl f32 d_Mo_expression_293 ?_
  refine g_goto (pc := 296) (tgt := 16) hX d_Mo_expression_296 (by decide) ?_
  refine g_sub [3, 4, 2, 1, 0, 5, 6] rfl ?_
  exact hJ16 _ _ _ _ _ _ _ _ h
set_option maxRecDepth 100000 in
set_option maxHeartbeats 4000000 in
theorem k_Mo_expression_c232 {X : CXT} {E : EVT} {K : Int32 → Mem → Prop} {J16 : Nat → Int32 → Int32 → Int32 → Int32 → Int32 → Int32 → Mem → Prop} (hX : Gd X E "BasicMachineModel" prog_14_method_28_code) (hR : Rm X 4 102) (hN : xnL X = 10) (hQ : QI X E K) (hJ16 : ∀ (x0 : Nat) (x1 : Int32) (x2 : Int32) (x3 : Int32) (x4 : Int32) (x5 : Int32) (x6 : Int32) (A : Mem), J16 x0 x1 x2 x3 x4 x5 x6 A → G X E A 16 [(0, cr E x0), (1, .int (x1)), (2, .int (x2)), (3, .int (x3)), (4, .int (x4)), (5, .int (x5)), (6, .int (x6))] []) (x0 : Nat) (x1 : Int32) (x2 : Int32) (x3 : Int32) (x4 : Int32) (x5 : Int32) (x6 : Int32) (x7 : Int32) (x9 : Int32) (A : Mem) (h : wp_Mo_expression_c232 J16 K x0 x1 x2 x3 x4 x5 x6 x7 x9 A) : G X E A 232 [(0, cr E x0), (1, .int (x1)), (2, .int (x2)), (3, .int (x3)), (4, .int (x4)), (5, .int (x5)), (6, .int (x6)), (7, .int (x7)), (9, .int (x9))] [] := by
  unfold wp_Mo_expression_c232 at h
  refine g_iload (pc := 232) hX d_Mo_expression_232 7 rfl ?_
  refine g_bipush (pc := 234) (v := 41) hX d_Mo_expression_234 (by decide) ?_
  refine g_icmp_ne (pc := 236) (tgt := 278) hX d_Mo_expression_236 (by decide) (fun q => ?_) (fun q => ?_)
  · have h := h.1 q
    refine g_sub [0, 2, 3] rfl ?_
    exact k_Mo_expression_c278 hX hR hN hQ _ _ _ _ h
  · have h := h.2 q
    refine g_iload (pc := 239) hX d_Mo_expression_239 8 rfl ?_
    refine g_bipush (pc := 241) (v := 110) hX d_Mo_expression_241 (by decide) ?_
    refine g_icmp_lt (pc := 243) (tgt := 253) hX d_Mo_expression_243 (by decide) (fun q => ?_) (fun q => ?_)
    · have h := h.1 q
      refine g_sub [0, 1, 2, 3, 4, 5, 6, 8] rfl ?_
      exact k_Mo_expression_c253 hX hR hN hQ hJ16 _ _ _ _ _ _ _ _ _ h
    · have h := h.2 q
      refine g_iload (pc := 246) hX d_Mo_expression_246 8 rfl ?_
      refine g_bipush (pc := 248) (v := 119) hX d_Mo_expression_248 (by decide) ?_
      refine g_icmp_le (pc := 250) (tgt := 278) hX d_Mo_expression_250 (by decide) (fun q => ?_) (fun q => ?_)
      · have h := h.1 q
        refine g_sub [0, 2, 3] rfl ?_
        exact k_Mo_expression_c278 hX hR hN hQ _ _ _ _ h
      · have h := h.2 q
        refine g_sub [0, 1, 2, 3, 4, 5, 6, 8] rfl ?_
        exact k_Mo_expression_c253 hX hR hN hQ hJ16 _ _ _ _ _ _ _ _ _ h
set_option maxRecDepth 100000 in
set_option maxHeartbeats 4000000 in
theorem k_Mo_expression_c88 {X : CXT} {E : EVT} {K : Int32 → Mem → Prop} {J16 : Nat → Int32 → Int32 → Int32 → Int32 → Int32 → Int32 → Mem → Prop} (hX : Gd X E "BasicMachineModel" prog_14_method_28_code) (hR : Rm X 4 102) (hN : xnL X = 10) (hQ : QI X E K) (hJ16 : ∀ (x0 : Nat) (x1 : Int32) (x2 : Int32) (x3 : Int32) (x4 : Int32) (x5 : Int32) (x6 : Int32) (A : Mem), J16 x0 x1 x2 x3 x4 x5 x6 A → G X E A 16 [(0, cr E x0), (1, .int (x1)), (2, .int (x2)), (3, .int (x3)), (4, .int (x4)), (5, .int (x5)), (6, .int (x6))] []) (x0 : Nat) (x1 : Int32) (x2 : Int32) (x3 : Int32) (x4 : Int32) (x5 : Int32) (x6 : Int32) (s0 : Int32) (s1 : Int32) (s2 : Nat) (A : Mem) (h : wp_Mo_expression_c88 J16 K x0 x1 x2 x3 x4 x5 x6 s0 s1 s2 A) : G X E A 88 [(0, cr E x0), (1, .int (x1)), (2, .int (x2)), (3, .int (x3)), (4, .int (x4)), (5, .int (x5)), (6, .int (x6))] [.int (s0), .int (s1), cr E s2] := by
  unfold wp_Mo_expression_c88 at h
  obtain ⟨f35, h⟩ := h
  refine g_callV_I (pc := 88) hX hR f35 cf9 rfl lk_Mo_263 mf_Mo_partMark (c_Mo_partMark _ _ _ _ _ h) rfl rfl rfl ⟨by decide, by decide⟩ (cat_sum _ (Nat.le_of_ble_eq_true rfl)) d_Mo_expression_88 (fun r34 A33 h => ?_)
  refine g_istore (pc := 91) (lv0 := [(0, cr E x0), (1, .int (x1)), (2, .int (x2)), (3, .int (x3)), (4, .int (x4)), (5, .int (x5)), (6, .int (x6))]) hX d_Mo_expression_91 (by rw [hN]; decide) (g_st1 (ks := [0, 1, 2, 3, 4, 5, 6]) rfl rfl) ?_
  refine g_iload (pc := 93) hX d_Mo_expression_93 0 rfl ?_
  refine g_if_ne (pc := 95) (tgt := 104) hX d_Mo_expression_95 (by decide) (fun q => ?_) (fun q => ?_)
  · have h := h.1 q
    refine g_aload_n (pc := 104) hX d_Mo_expression_104 rfl 1 rfl ?_
    obtain ⟨f37, h⟩ := h
    refine g_callV_V (pc := 105) hX hR f37 cf9 rfl lk_Mo_267 mf_Mo_bracket (c_Mo_bracket _ _ _ h) rfl rfl rfl ⟨by decide, by decide⟩ (cat_sum _ (Nat.le_of_ble_eq_true rfl)) d_Mo_expression_105 (fun A36 h => ?_)
    refine g_aload_n (pc := 108) hX d_Mo_expression_108 rfl 1 rfl ?_
    refine g_getR (pc := 109) hX fl_Mo_58 rfl f37 d_Mo_expression_109 ?_
    refine g_iload_n (pc := 112) hX d_Mo_expression_112 rfl 4 rfl ?_
    refine g_iload (pc := 113) hX d_Mo_expression_113 0 rfl ?_
    obtain ⟨f38, h⟩ := h
    obtain ⟨f39, h⟩ := h
    refine g_iastore (pc := 115) hX f38 f39 d_Mo_expression_115 ?_
    refine g_iinc (pc := 116) (v := (x3 + 1)) (lv0 := [(2, .int (x2)), (8, .int (r34)), (0, cr E x0), (1, .int (x1)), (4, .int (x4)), (5, .int (x5)), (6, .int (x6))]) hX d_Mo_expression_116 4 rfl rfl (by rw [hN]; decide) (g_st1b (ks := [3, 0, 1, 2, 5, 6, 7]) rfl rfl rfl rfl) ?_
    refine g_iinc (pc := 119) (v := (x4 + 1)) (lv0 := [(3, .int ((x3 + 1))), (2, .int (x2)), (8, .int (r34)), (0, cr E x0), (1, .int (x1)), (5, .int (x5)), (6, .int (x6))]) hX d_Mo_expression_119 5 rfl rfl (by rw [hN]; decide) (g_st1b (ks := [0, 1, 2, 3, 4, 6, 7]) rfl rfl rfl rfl) ?_
    refine g_iconst (pc := 122) (v := 1) hX d_Mo_expression_122 (by decide) ?_
    refine g_istore (pc := 123) (lv0 := [(5, .int (x5)), (4, .int ((x4 + 1))), (3, .int ((x3 + 1))), (2, .int (x2)), (8, .int (r34)), (0, cr E x0), (1, .int (x1))]) hX d_Mo_expression_123 (by rw [hN]; decide) (g_st1b (ks := [6, 0, 1, 2, 3, 4, 5]) rfl rfl rfl rfl) ?_
    refine g_goto (pc := 125) (tgt := 16) hX d_Mo_expression_125 (by decide) ?_
    refine g_sub [6, 7, 4, 3, 2, 1, 0] rfl ?_
    exact hJ16 _ _ _ _ _ _ _ _ h
  · have h := h.2 q
    refine g_iconst (pc := 98) (v := 0) hX d_Mo_expression_98 (by decide) ?_
    refine g_istore (pc := 99) (lv0 := [(4, .int (x4)), (8, .int (r34)), (0, cr E x0), (1, .int (x1)), (2, .int (x2)), (3, .int (x3)), (6, .int (x6))]) hX d_Mo_expression_99 (by rw [hN]; decide) (g_st1b (ks := [5, 0, 1, 2, 3, 4, 7]) rfl rfl rfl rfl) ?_
    refine g_goto (pc := 101) (tgt := 16) hX d_Mo_expression_101 (by decide) ?_
    refine g_sub [3, 4, 5, 6, 1, 0, 7] rfl ?_
    exact hJ16 _ _ _ _ _ _ _ _ h
set_option maxRecDepth 100000 in
set_option maxHeartbeats 4000000 in
theorem k_Mo_expression_c16 {X : CXT} {E : EVT} {K : Int32 → Mem → Prop} (hX : Gd X E "BasicMachineModel" prog_14_method_28_code) (hR : Rm X 4 102) (hN : xnL X = 10) (hQ : QI X E K) : ∀ (n : Nat) (x0 : Nat) (x1 : Int32) (x2 : Int32) (x3 : Int32) (x4 : Int32) (x5 : Int32) (x6 : Int32) (A : Mem), wp_Mo_expression_c16 K n x0 x1 x2 x3 x4 x5 x6 A → G X E A 16 [(0, cr E x0), (1, .int (x1)), (2, .int (x2)), (3, .int (x3)), (4, .int (x4)), (5, .int (x5)), (6, .int (x6))] [] := by
  intro n
  induction n with
  | zero => intro x0 x1 x2 x3 x4 x5 x6 A h; exact h.elim
  | succ n ih =>
    intro x0 x1 x2 x3 x4 x5 x6 A h
    rw [wp_Mo_expression_c16] at h
    refine g_aload_n (pc := 16) hX d_Mo_expression_16 rfl 0 rfl ?_
    obtain ⟨f2, h⟩ := h
    refine g_getI (pc := 17) hX fl_Mo_31 rfl f2 d_Mo_expression_17 ?_
    refine g_if_ne (pc := 20) (tgt := 318) hX d_Mo_expression_20 (by decide) (fun q => ?_) (fun q => ?_)
    · have h := h.1 q
      refine g_aload_n (pc := 318) hX d_Mo_expression_318 rfl 0 rfl ?_
      refine g_iload_n (pc := 319) hX d_Mo_expression_319 rfl 3 rfl ?_
      refine g_iconst (pc := 320) (v := 1) hX d_Mo_expression_320 (by decide) ?_
      refine g_callV_I (pc := 321) hX hR f2 cf9 rfl lk_Mo_273 mf_Mo_settle (c_Mo_settle _ _ _ _ _ h) rfl rfl rfl ⟨by decide, by decide⟩ (cat_sum _ (Nat.le_of_ble_eq_true rfl)) d_Mo_expression_321 (fun r4 A3 h => ?_)
      refine g_istore_n (pc := 324) (lv0 := [(2, .int (x2)), (0, cr E x0), (1, .int (x1)), (4, .int (x4)), (5, .int (x5)), (6, .int (x6))]) hX d_Mo_expression_324 rfl (by rw [hN]; decide) (g_st1b (ks := [2, 0, 1, 4, 5, 6]) rfl rfl rfl rfl) ?_
      refine g_aload_n (pc := 325) hX d_Mo_expression_325 rfl 2 rfl ?_
      refine g_bipush (pc := 326) (v := 14) hX d_Mo_expression_326 (by decide) ?_
      refine g_callV_V (pc := 328) hX hR f2 cf9 rfl lk_Mo_244 mf_Mo_make (c_Mo_make _ _ _ _ h) rfl rfl rfl ⟨by decide, by decide⟩ (cat_sum _ (Nat.le_of_ble_eq_true rfl)) d_Mo_expression_328 (fun A5 h => ?_)
      refine g_iload_n (pc := 331) hX d_Mo_expression_331 rfl 1 rfl ?_
      exact g_iret hX hQ h d_Mo_expression_332
    · have h := h.2 q
      refine g_aload_n (pc := 23) hX d_Mo_expression_23 rfl 0 rfl ?_
      refine g_callV_I (pc := 24) hX hR f2 cf9 rfl lk_Mo_156 mf_Mo_look (c_Mo_look _ _ _ h) rfl rfl rfl ⟨by decide, by decide⟩ (cat_sum _ (Nat.le_of_ble_eq_true rfl)) d_Mo_expression_24 (fun r7 A6 h => ?_)
      refine g_istore (pc := 27) (lv0 := [(6, .int (x6)), (0, cr E x0), (1, .int (x1)), (2, .int (x2)), (3, .int (x3)), (4, .int (x4)), (5, .int (x5))]) hX d_Mo_expression_27 (by rw [hN]; decide) (g_st1b (ks := [6, 0, 1, 2, 3, 4, 5]) rfl rfl rfl rfl) ?_
      refine g_iload (pc := 29) hX d_Mo_expression_29 7 rfl ?_
      refine g_if_eq (pc := 31) (tgt := 128) hX d_Mo_expression_31 (by decide) (fun q => ?_) (fun q => ?_)
      · have h := h.1 q
        refine g_aload_n (pc := 128) hX d_Mo_expression_128 rfl 2 rfl ?_
        refine g_iload (pc := 129) hX d_Mo_expression_129 0 rfl ?_
        refine g_callV_I (pc := 131) hX hR f2 cf9 rfl lk_Mo_270 mf_Mo_operator (c_Mo_operator _ _ _ _ h) rfl rfl rfl ⟨by decide, by decide⟩ (cat_sum _ (Nat.le_of_ble_eq_true rfl)) d_Mo_expression_131 (fun r9 A8 h => ?_)
        refine g_istore (pc := 134) (lv0 := [(7, .int (r7)), (6, .int (x6)), (0, cr E x0), (1, .int (x1)), (2, .int (x2)), (3, .int (x3)), (4, .int (x4)), (5, .int (x5))]) hX d_Mo_expression_134 (by rw [hN]; decide) (g_st1b (ks := [0, 1, 2, 3, 4, 5, 6, 7]) rfl rfl rfl rfl) ?_
        refine g_iload (pc := 136) hX d_Mo_expression_136 0 rfl ?_
        refine g_if_le (pc := 138) (tgt := 164) hX d_Mo_expression_138 (by decide) (fun q => ?_) (fun q => ?_)
        · have h := h.1 q
          refine g_iload (pc := 164) hX d_Mo_expression_164 7 rfl ?_
          refine g_if_ne (pc := 166) (tgt := 172) hX d_Mo_expression_166 (by decide) (fun q => ?_) (fun q => ?_)
          · have h := h.1 q
            refine g_aload_n (pc := 172) hX d_Mo_expression_172 rfl 3 rfl ?_
            refine g_iload_n (pc := 173) hX d_Mo_expression_173 rfl 6 rfl ?_
            refine g_iconst (pc := 174) (v := 1) hX d_Mo_expression_174 (by decide) ?_
            refine g_callV_I (pc := 175) hX hR f2 cf9 rfl lk_Mo_273 mf_Mo_settle (c_Mo_settle _ _ _ _ _ h) rfl rfl rfl ⟨by decide, by decide⟩ (cat_sum _ (Nat.le_of_ble_eq_true rfl)) d_Mo_expression_175 (fun r11 A10 h => ?_)
            refine g_istore_n (pc := 178) (lv0 := [(2, .int (x2)), (8, .int (r9)), (7, .int (r7)), (6, .int (x6)), (0, cr E x0), (1, .int (x1)), (4, .int (x4)), (5, .int (x5))]) hX d_Mo_expression_178 rfl (by rw [hN]; decide) (g_st1b (ks := [5, 0, 1, 2, 3, 4, 7, 8]) rfl rfl rfl rfl) ?_
            refine g_aload_n (pc := 179) hX d_Mo_expression_179 rfl 5 rfl ?_
            refine g_getR (pc := 180) hX fl_Mo_58 rfl f2 d_Mo_expression_180 ?_
            refine g_iload_n (pc := 183) hX d_Mo_expression_183 rfl 0 rfl ?_
            refine g_iconst (pc := 184) (v := 1) hX d_Mo_expression_184 (by decide) ?_
            refine g_isub (pc := 185) hX d_Mo_expression_185 ?_
            obtain ⟨f12, h⟩ := h
            obtain ⟨f13, h⟩ := h
            refine g_iaload (pc := 186) hX f12 f13 d_Mo_expression_186 ?_
            refine g_istore (pc := 187) (lv0 := [(8, .int (r9)), (3, .int (r11)), (2, .int (x2)), (7, .int (r7)), (6, .int (x6)), (0, cr E x0), (1, .int (x1)), (4, .int (x4)), (5, .int (x5))]) hX d_Mo_expression_187 (by rw [hN]; decide) (g_st1b (ks := [2, 0, 1, 3, 4, 5, 6, 7, 8]) rfl rfl rfl rfl) ?_
            refine g_iload (pc := 189) hX d_Mo_expression_189 4 rfl ?_
            refine g_bipush (pc := 191) (v := 44) hX d_Mo_expression_191 (by decide) ?_
            refine g_icmp_ne (pc := 193) (tgt := 232) hX d_Mo_expression_193 (by decide) (fun q => ?_) (fun q => ?_)
            · have h := h.1 q
              refine g_sub [6, 7, 3, 2, 8, 9, 5, 4, 0] rfl ?_
              exact k_Mo_expression_c232 hX hR hN hQ ih _ _ _ _ _ _ _ _ _ _ h
            · have h := h.2 q
              refine g_iload (pc := 196) hX d_Mo_expression_196 0 rfl ?_
              refine g_bipush (pc := 198) (v := 109) hX d_Mo_expression_198 (by decide) ?_
              refine g_icmp_le (pc := 200) (tgt := 232) hX d_Mo_expression_200 (by decide) (fun q => ?_) (fun q => ?_)
              · have h := h.1 q
                refine g_sub [6, 7, 3, 2, 8, 9, 5, 4, 0] rfl ?_
                exact k_Mo_expression_c232 hX hR hN hQ ih _ _ _ _ _ _ _ _ _ _ h
              · have h := h.2 q
                refine g_iload (pc := 203) hX d_Mo_expression_203 0 rfl ?_
                refine g_bipush (pc := 205) (v := 120) hX d_Mo_expression_205 (by decide) ?_
                refine g_icmp_ge (pc := 207) (tgt := 232) hX d_Mo_expression_207 (by decide) (fun q => ?_) (fun q => ?_)
                · have h := h.1 q
                  refine g_sub [6, 7, 3, 2, 8, 9, 5, 4, 0] rfl ?_
                  exact k_Mo_expression_c232 hX hR hN hQ ih _ _ _ _ _ _ _ _ _ _ h
                · have h := h.2 q
                  refine g_aload_n (pc := 210) hX d_Mo_expression_210 rfl 6 rfl ?_
                  refine g_getR (pc := 211) hX fl_Mo_58 rfl f2 d_Mo_expression_211 ?_
                  refine g_iload_n (pc := 214) hX d_Mo_expression_214 rfl 2 rfl ?_
                  refine g_iconst (pc := 215) (v := 1) hX d_Mo_expression_215 (by decide) ?_
                  refine g_isub (pc := 216) hX d_Mo_expression_216 ?_
                  refine g_iload (pc := 217) hX d_Mo_expression_217 0 rfl ?_
                  refine g_bipush (pc := 219) (v := 10) hX d_Mo_expression_219 (by decide) ?_
                  refine g_iadd (pc := 221) hX d_Mo_expression_221 ?_
                  refine g_iastore (pc := 222) hX f12 f13 d_Mo_expression_222 ?_
                  refine g_nm (fun A14 eA14 => ?_)
                  have h := h A14 eA14
                  refine g_iconst (pc := 223) (v := 1) hX d_Mo_expression_223 (by decide) ?_
                  refine g_istore (pc := 224) (lv0 := [(5, .int (x5)), (9, .int ((gI A10 (gR A10 x0 15) (Int32.toNatClampNeg (r11 - 1))))), (8, .int (r9)), (3, .int (r11)), (2, .int (x2)), (7, .int (r7)), (0, cr E x0), (1, .int (x1)), (4, .int (x4))]) hX d_Mo_expression_224 (by rw [hN]; decide) (g_st1b (ks := [9, 0, 1, 2, 3, 4, 6, 7, 8]) rfl rfl rfl rfl) ?_
                  refine g_iconst (pc := 226) (v := 1) hX d_Mo_expression_226 (by decide) ?_
                  refine g_istore (pc := 227) (lv0 := [(4, .int (x4)), (6, .int (1)), (9, .int ((gI A10 (gR A10 x0 15) (Int32.toNatClampNeg (r11 - 1))))), (8, .int (r9)), (3, .int (r11)), (2, .int (x2)), (7, .int (r7)), (0, cr E x0), (1, .int (x1))]) hX d_Mo_expression_227 (by rw [hN]; decide) (g_st1b (ks := [9, 0, 2, 3, 4, 5, 6, 7, 8]) rfl rfl rfl rfl) ?_
                  refine g_goto (pc := 229) (tgt := 286) hX d_Mo_expression_229 (by decide) ?_
                  refine g_aload_n (pc := 286) hX d_Mo_expression_286 rfl 8 rfl ?_
                  refine g_dup (pc := 287) hX d_Mo_expression_287 (cr_cat _ _) ?_
                  refine g_getI (pc := 288) hX fl_Mo_22 rfl f2 d_Mo_expression_288 ?_
                  refine g_iconst (pc := 291) (v := 1) hX d_Mo_expression_291 (by decide) ?_
                  refine g_iadd (pc := 292) hX d_Mo_expression_292 ?_
                  refine g_putI (pc := 293) hX fl_Mo_22 rfl rfl rfl f2 d_Mo_expression_293 ?_
                  refine g_goto (pc := 296) (tgt := 16) hX d_Mo_expression_296 (by decide) ?_
                  refine g_sub [8, 9, 6, 5, 1, 0, 2] rfl ?_
                  exact ih _ _ _ _ _ _ _ _ h
          · have h := h.2 q
            refine g_goto (pc := 169) (tgt := 318) hX d_Mo_expression_169 (by decide) ?_
            refine g_aload_n (pc := 318) hX d_Mo_expression_318 rfl 3 rfl ?_
            refine g_iload_n (pc := 319) hX d_Mo_expression_319 rfl 6 rfl ?_
            refine g_iconst (pc := 320) (v := 1) hX d_Mo_expression_320 (by decide) ?_
            refine g_callV_I (pc := 321) hX hR f2 cf9 rfl lk_Mo_273 mf_Mo_settle (c_Mo_settle _ _ _ _ _ h) rfl rfl rfl ⟨by decide, by decide⟩ (cat_sum _ (Nat.le_of_ble_eq_true rfl)) d_Mo_expression_321 (fun r16 A15 h => ?_)
            refine g_istore_n (pc := 324) (lv0 := [(2, .int (x2)), (8, .int (r9)), (7, .int (r7)), (6, .int (x6)), (0, cr E x0), (1, .int (x1)), (4, .int (x4)), (5, .int (x5))]) hX d_Mo_expression_324 rfl (by rw [hN]; decide) (g_st1b (ks := [5, 0, 1, 2, 3, 4, 7, 8]) rfl rfl rfl rfl) ?_
            refine g_aload_n (pc := 325) hX d_Mo_expression_325 rfl 5 rfl ?_
            refine g_bipush (pc := 326) (v := 14) hX d_Mo_expression_326 (by decide) ?_
            refine g_callV_V (pc := 328) hX hR f2 cf9 rfl lk_Mo_244 mf_Mo_make (c_Mo_make _ _ _ _ h) rfl rfl rfl ⟨by decide, by decide⟩ (cat_sum _ (Nat.le_of_ble_eq_true rfl)) d_Mo_expression_328 (fun A17 h => ?_)
            refine g_iload_n (pc := 331) hX d_Mo_expression_331 rfl 1 rfl ?_
            exact g_iret hX hQ h d_Mo_expression_332
        · have h := h.2 q
          refine g_aload_n (pc := 141) hX d_Mo_expression_141 rfl 3 rfl ?_
          refine g_iload_n (pc := 142) hX d_Mo_expression_142 rfl 6 rfl ?_
          refine g_aload_n (pc := 143) hX d_Mo_expression_143 rfl 3 rfl ?_
          refine g_iload (pc := 144) hX d_Mo_expression_144 0 rfl ?_
          refine g_callV_I (pc := 146) hX hR f2 cf9 rfl lk_Mo_251 mf_Mo_rank (c_Mo_rank _ _ _ _ h) rfl rfl rfl ⟨by decide, by decide⟩ (cat_sum _ (Nat.le_of_ble_eq_true rfl)) d_Mo_expression_146 (fun r19 A18 h => ?_)
          refine g_callV_I (pc := 149) hX hR f2 cf9 rfl lk_Mo_273 mf_Mo_settle (c_Mo_settle _ _ _ _ _ h) rfl rfl rfl ⟨by decide, by decide⟩ (cat_sum _ (Nat.le_of_ble_eq_true rfl)) d_Mo_expression_149 (fun r21 A20 h => ?_)
          refine g_istore_n (pc := 152) (lv0 := [(2, .int (x2)), (8, .int (r9)), (7, .int (r7)), (6, .int (x6)), (0, cr E x0), (1, .int (x1)), (4, .int (x4)), (5, .int (x5))]) hX d_Mo_expression_152 rfl (by rw [hN]; decide) (g_st1b (ks := [5, 0, 1, 2, 3, 4, 7, 8]) rfl rfl rfl rfl) ?_
          refine g_aload_n (pc := 153) hX d_Mo_expression_153 rfl 5 rfl ?_
          refine g_getR (pc := 154) hX fl_Mo_58 rfl f2 d_Mo_expression_154 ?_
          refine g_iload_n (pc := 157) hX d_Mo_expression_157 rfl 0 rfl ?_
          refine g_iload (pc := 158) hX d_Mo_expression_158 2 rfl ?_
          obtain ⟨f22, h⟩ := h
          obtain ⟨f23, h⟩ := h
          refine g_iastore (pc := 160) hX f22 f23 d_Mo_expression_160 ?_
          refine g_goto (pc := 161) (tgt := 299) hX d_Mo_expression_161 (by decide) ?_
          refine g_aload_n (pc := 299) hX d_Mo_expression_299 rfl 5 rfl ?_
          refine g_dup (pc := 300) hX d_Mo_expression_300 (cr_cat _ _) ?_
          refine g_getI (pc := 301) hX fl_Mo_22 rfl f2 d_Mo_expression_301 ?_
          refine g_iconst (pc := 304) (v := 1) hX d_Mo_expression_304 (by decide) ?_
          refine g_iadd (pc := 305) hX d_Mo_expression_305 ?_
          refine g_putI (pc := 306) hX fl_Mo_22 rfl rfl rfl f2 d_Mo_expression_306 ?_
          refine g_nm (fun A24 eA24 => ?_)
          have h := h A24 eA24
          refine g_iinc (pc := 309) (v := (r21 + 1)) (lv0 := [(2, .int (x2)), (8, .int (r9)), (7, .int (r7)), (6, .int (x6)), (0, cr E x0), (1, .int (x1)), (4, .int (x4)), (5, .int (x5))]) hX d_Mo_expression_309 0 rfl rfl (by rw [hN]; decide) (g_st1b (ks := [1, 2, 3, 4, 5, 6, 7, 8]) rfl rfl rfl rfl) ?_
          refine g_iconst (pc := 312) (v := 1) hX d_Mo_expression_312 (by decide) ?_
          refine g_istore (pc := 313) (lv0 := [(4, .int (x4)), (3, .int ((r21 + 1))), (2, .int (x2)), (8, .int (r9)), (7, .int (r7)), (6, .int (x6)), (0, cr E x0), (1, .int (x1))]) hX d_Mo_expression_313 (by rw [hN]; decide) (g_st1b (ks := [7, 0, 1, 2, 3, 4, 5, 6]) rfl rfl rfl rfl) ?_
          refine g_goto (pc := 315) (tgt := 16) hX d_Mo_expression_315 (by decide) ?_
          refine g_sub [7, 8, 3, 2, 1, 0, 6] rfl ?_
          exact ih _ _ _ _ _ _ _ _ h
      · have h := h.2 q
        refine g_iload (pc := 34) hX d_Mo_expression_34 1 rfl ?_
        refine g_if_eq (pc := 36) (tgt := 73) hX d_Mo_expression_36 (by decide) (fun q => ?_) (fun q => ?_)
        · have h := h.1 q
          refine g_iconst (pc := 73) (v := 0) hX d_Mo_expression_73 (by decide) ?_
          refine g_istore (pc := 74) (lv0 := [(5, .int (x5)), (7, .int (r7)), (0, cr E x0), (1, .int (x1)), (2, .int (x2)), (3, .int (x3)), (4, .int (x4))]) hX d_Mo_expression_74 (by rw [hN]; decide) (g_st1b (ks := [7, 0, 2, 3, 4, 5, 6]) rfl rfl rfl rfl) ?_
          refine g_aload_n (pc := 76) hX d_Mo_expression_76 rfl 3 rfl ?_
          refine g_iload_n (pc := 77) hX d_Mo_expression_77 rfl 4 rfl ?_
          refine g_iload (pc := 78) hX d_Mo_expression_78 7 rfl ?_
          refine g_if_ne (pc := 80) (tgt := 87) hX d_Mo_expression_80 (by decide) (fun q => ?_) (fun q => ?_)
          · have h := h.1 q
            refine g_iconst (pc := 87) (v := 0) hX d_Mo_expression_87 (by decide) ?_
            refine g_sub [3, 4, 5, 6, 7, 1, 0] rfl ?_
            exact k_Mo_expression_c88 hX hR hN hQ ih _ _ _ _ _ _ _ _ _ _ _ h
          · have h := h.2 q
            refine g_iconst (pc := 83) (v := 1) hX d_Mo_expression_83 (by decide) ?_
            refine g_goto (pc := 84) (tgt := 88) hX d_Mo_expression_84 (by decide) ?_
            refine g_sub [3, 4, 5, 6, 7, 1, 0] rfl ?_
            exact k_Mo_expression_c88 hX hR hN hQ ih _ _ _ _ _ _ _ _ _ _ _ h
        · have h := h.2 q
          refine g_iload (pc := 39) hX d_Mo_expression_39 0 rfl ?_
          refine g_bipush (pc := 41) (v := 45) hX d_Mo_expression_41 (by decide) ?_
          refine g_icmp_ne (pc := 43) (tgt := 73) hX d_Mo_expression_43 (by decide) (fun q => ?_) (fun q => ?_)
          · have h := h.1 q
            refine g_iconst (pc := 73) (v := 0) hX d_Mo_expression_73 (by decide) ?_
            refine g_istore (pc := 74) (lv0 := [(5, .int (x5)), (7, .int (r7)), (0, cr E x0), (1, .int (x1)), (2, .int (x2)), (3, .int (x3)), (4, .int (x4))]) hX d_Mo_expression_74 (by rw [hN]; decide) (g_st1b (ks := [7, 0, 2, 3, 4, 5, 6]) rfl rfl rfl rfl) ?_
            refine g_aload_n (pc := 76) hX d_Mo_expression_76 rfl 3 rfl ?_
            refine g_iload_n (pc := 77) hX d_Mo_expression_77 rfl 4 rfl ?_
            refine g_iload (pc := 78) hX d_Mo_expression_78 7 rfl ?_
            refine g_if_ne (pc := 80) (tgt := 87) hX d_Mo_expression_80 (by decide) (fun q => ?_) (fun q => ?_)
            · have h := h.1 q
              refine g_iconst (pc := 87) (v := 0) hX d_Mo_expression_87 (by decide) ?_
              refine g_sub [3, 4, 5, 6, 7, 1, 0] rfl ?_
              exact k_Mo_expression_c88 hX hR hN hQ ih _ _ _ _ _ _ _ _ _ _ _ h
            · have h := h.2 q
              refine g_iconst (pc := 83) (v := 1) hX d_Mo_expression_83 (by decide) ?_
              refine g_goto (pc := 84) (tgt := 88) hX d_Mo_expression_84 (by decide) ?_
              refine g_sub [3, 4, 5, 6, 7, 1, 0] rfl ?_
              exact k_Mo_expression_c88 hX hR hN hQ ih _ _ _ _ _ _ _ _ _ _ _ h
          · have h := h.2 q
            refine g_aload_n (pc := 46) hX d_Mo_expression_46 rfl 2 rfl ?_
            refine g_dup (pc := 47) hX d_Mo_expression_47 (cr_cat _ _) ?_
            refine g_getI (pc := 48) hX fl_Mo_22 rfl f2 d_Mo_expression_48 ?_
            refine g_iconst (pc := 51) (v := 1) hX d_Mo_expression_51 (by decide) ?_
            refine g_iadd (pc := 52) hX d_Mo_expression_52 ?_
            refine g_putI (pc := 53) hX fl_Mo_22 rfl rfl rfl f2 d_Mo_expression_53 ?_
            refine g_aload_n (pc := 56) hX d_Mo_expression_56 rfl 2 rfl ?_
            refine g_getR (pc := 57) hX fl_Mo_58 rfl f2 d_Mo_expression_57 ?_
            refine g_iload_n (pc := 60) hX d_Mo_expression_60 rfl 5 rfl ?_
            refine g_bipush (pc := 61) (v := 8) hX d_Mo_expression_61 (by decide) ?_
            obtain ⟨f25, h⟩ := h
            obtain ⟨f26, h⟩ := h
            refine g_iastore (pc := 63) hX f25 f26 d_Mo_expression_63 ?_
            refine g_iinc (pc := 64) (v := (x3 + 1)) (lv0 := [(2, .int (x2)), (7, .int (r7)), (6, .int (x6)), (0, cr E x0), (1, .int (x1)), (4, .int (x4)), (5, .int (x5))]) hX d_Mo_expression_64 5 rfl rfl (by rw [hN]; decide) (g_st1b (ks := [4, 0, 1, 2, 3, 6, 7]) rfl rfl rfl rfl) ?_
            refine g_iconst (pc := 67) (v := 0) hX d_Mo_expression_67 (by decide) ?_
            refine g_istore (pc := 68) (lv0 := [(5, .int (x5)), (3, .int ((x3 + 1))), (2, .int (x2)), (7, .int (r7)), (0, cr E x0), (1, .int (x1)), (4, .int (x4))]) hX d_Mo_expression_68 (by rw [hN]; decide) (g_st1b (ks := [7, 0, 1, 2, 4, 5, 6]) rfl rfl rfl rfl) ?_
            refine g_goto (pc := 70) (tgt := 16) hX d_Mo_expression_70 (by decide) ?_
            refine g_sub [5, 6, 3, 2, 7, 1, 0] rfl ?_
            exact ih _ _ _ _ _ _ _ _ h
set_option maxRecDepth 100000 in
set_option maxHeartbeats 4000000 in
theorem c_Mo_expression (o : Nat) (p1 : Int32) (A : Mem) (K : Int32 → Mem → Prop) (h : wp_Mo_expression o p1 A K) : CtI y_Mo_expression prog_14_method_28_code 10 4 102 (fun E => [cr E o, .int (p1)]) A K := by
  refine ctI_of "BasicMachineModel" (by decide) rfl (fun E => [(0, cr E o), (1, .int (p1))]) (fun E => by simp [lg_sl, cr_cat, ca_i, ca_l, ca_d]) (fun E => by simp [lv_args, cr_cat, ca_i, ca_l, ca_d]) (fun X E hX hR hN hQ => ?_)
  unfold wp_Mo_expression at h
  refine g_aload_n (pc := 0) hX d_Mo_expression_0 rfl 0 rfl ?_
  obtain ⟨f1, h⟩ := h
  refine g_getI (pc := 1) hX fl_Mo_28 rfl f1 d_Mo_expression_1 ?_
  refine g_istore_n (pc := 4) (lv0 := [(1, .int (p1)), (0, cr E o)]) hX d_Mo_expression_4 rfl (by rw [hN]; decide) (g_st1b (ks := [1, 0]) rfl rfl rfl rfl) ?_
  refine g_iconst (pc := 5) (v := 0) hX d_Mo_expression_5 (by decide) ?_
  refine g_istore_n (pc := 6) (lv0 := [(2, .int ((gI A o 6))), (1, .int (p1)), (0, cr E o)]) hX d_Mo_expression_6 rfl (by rw [hN]; decide) (g_st1b (ks := [0, 1, 2]) rfl rfl rfl rfl) ?_
  refine g_iconst (pc := 7) (v := 0) hX d_Mo_expression_7 (by decide) ?_
  refine g_istore (pc := 8) (lv0 := [(3, .int (0)), (2, .int ((gI A o 6))), (1, .int (p1)), (0, cr E o)]) hX d_Mo_expression_8 (by rw [hN]; decide) (g_st1b (ks := [0, 1, 2, 3]) rfl rfl rfl rfl) ?_
  refine g_iconst (pc := 10) (v := 1) hX d_Mo_expression_10 (by decide) ?_
  refine g_istore (pc := 11) (lv0 := [(4, .int (0)), (3, .int (0)), (2, .int ((gI A o 6))), (1, .int (p1)), (0, cr E o)]) hX d_Mo_expression_11 (by rw [hN]; decide) (g_st1b (ks := [0, 1, 2, 3, 4]) rfl rfl rfl rfl) ?_
  refine g_iconst (pc := 13) (v := 1) hX d_Mo_expression_13 (by decide) ?_
  refine g_istore (pc := 14) (lv0 := [(5, .int (1)), (4, .int (0)), (3, .int (0)), (2, .int ((gI A o 6))), (1, .int (p1)), (0, cr E o)]) hX d_Mo_expression_14 (by rw [hN]; decide) (g_st1b (ks := [0, 1, 2, 3, 4, 5]) rfl rfl rfl rfl) ?_
  refine g_sub [6, 5, 4, 3, 2, 1, 0] rfl ?_
  obtain ⟨n9, h⟩ := h
  exact k_Mo_expression_c16 hX hR hN hQ n9 _ _ _ _ _ _ _ _ h
def wp_Mo_setArg (o : Nat) (p1 : Int32) (p2 : Int32) (A : Mem) (K : Mem → Prop) : Prop := kd o = 9 ∧ kd (gR A o 12) = 51 ∧ vp_in (192 + p1) (al (gR A o 12)) ∧ K (sI A (gR A o 12) (Int32.toNatClampNeg (192 + p1)) p2)
set_option maxRecDepth 100000 in
set_option maxHeartbeats 4000000 in
theorem c_Mo_setArg (o : Nat) (p1 : Int32) (p2 : Int32) (A : Mem) (K : Mem → Prop) (h : wp_Mo_setArg o p1 p2 A K) : CtV y_Mo_setArg prog_14_method_29_code 3 0 0 (fun E => [cr E o, .int (p1), .int (p2)]) A K := by
  refine ctV_of "BasicMachineModel" (by decide) rfl (fun E => [(0, cr E o), (1, .int (p1)), (2, .int (p2))]) (fun E => by simp [lg_sl, cr_cat, ca_i, ca_l, ca_d]) (fun E => by simp [lv_args, cr_cat, ca_i, ca_l, ca_d]) (fun X E hX hR hN hQ => ?_)
  unfold wp_Mo_setArg at h
  refine g_aload_n (pc := 0) hX d_Mo_setArg_0 rfl 0 rfl ?_
  obtain ⟨f1, h⟩ := h
  refine g_getR (pc := 1) hX fl_Mo_49 rfl f1 d_Mo_setArg_1 ?_
  refine g_sipush (pc := 4) (v := 192) hX d_Mo_setArg_4 (by decide) ?_
  refine g_iload_n (pc := 7) hX d_Mo_setArg_7 rfl 1 rfl ?_
  refine g_iadd (pc := 8) hX d_Mo_setArg_8 ?_
  refine g_iload_n (pc := 9) hX d_Mo_setArg_9 rfl 2 rfl ?_
  obtain ⟨f2, h⟩ := h
  obtain ⟨f3, h⟩ := h
  refine g_iastore (pc := 10) hX f2 f3 d_Mo_setArg_10 ?_
  exact g_vret hX hQ h d_Mo_setArg_11
def wp_Mo_setExpr (o : Nat) (p1 : Int32) (p2 : Int32) (A : Mem) (K : Mem → Prop) : Prop := kd o = 9 ∧ kd (gR A o 13) = 51 ∧ vp_in (96 + p1) (al (gR A o 13)) ∧ K (sI A (gR A o 13) (Int32.toNatClampNeg (96 + p1)) p2)
set_option maxRecDepth 100000 in
set_option maxHeartbeats 4000000 in
theorem c_Mo_setExpr (o : Nat) (p1 : Int32) (p2 : Int32) (A : Mem) (K : Mem → Prop) (h : wp_Mo_setExpr o p1 p2 A K) : CtV y_Mo_setExpr prog_14_method_30_code 3 0 0 (fun E => [cr E o, .int (p1), .int (p2)]) A K := by
  refine ctV_of "BasicMachineModel" (by decide) rfl (fun E => [(0, cr E o), (1, .int (p1)), (2, .int (p2))]) (fun E => by simp [lg_sl, cr_cat, ca_i, ca_l, ca_d]) (fun E => by simp [lv_args, cr_cat, ca_i, ca_l, ca_d]) (fun X E hX hR hN hQ => ?_)
  unfold wp_Mo_setExpr at h
  refine g_aload_n (pc := 0) hX d_Mo_setExpr_0 rfl 0 rfl ?_
  obtain ⟨f1, h⟩ := h
  refine g_getR (pc := 1) hX fl_Mo_52 rfl f1 d_Mo_setExpr_1 ?_
  refine g_bipush (pc := 4) (v := 96) hX d_Mo_setExpr_4 (by decide) ?_
  refine g_iload_n (pc := 6) hX d_Mo_setExpr_6 rfl 1 rfl ?_
  refine g_iadd (pc := 7) hX d_Mo_setExpr_7 ?_
  refine g_iload_n (pc := 8) hX d_Mo_setExpr_8 rfl 2 rfl ?_
  obtain ⟨f2, h⟩ := h
  obtain ⟨f3, h⟩ := h
  refine g_iastore (pc := 9) hX f2 f3 d_Mo_setExpr_9 ?_
  exact g_vret hX hQ h d_Mo_setExpr_10
def wp_Mo_target (o : Nat) (A : Mem) (K : Mem → Prop) : Prop := kd o = 9 ∧ wp_Mo_look o A (fun (r2 : Int32) (A1 : Mem) => wp_Mo_isMatrix o r2 A1 (fun (r5 : Bool) (A4 : Mem) => ((r5 = true → wp_Mo_matrix o A4 (fun (r7 : Int32) (A6 : Mem) => wp_Mo_setArg o 0 (26 + r7) A6 (fun (A8 : Mem) => wp_Mo_bracket o A8 (fun (A9 : Mem) => wp_Mo_expression o 0 A9 (fun (r11 : Int32) (A10 : Mem) => wp_Mo_setExpr o 0 r11 A10 (fun (A12 : Mem) => wp_Mo_need o 44 A12 (fun (A13 : Mem) => wp_Mo_expression o 0 A13 (fun (r15 : Int32) (A14 : Mem) => wp_Mo_setExpr o 1 r15 A14 (fun (A16 : Mem) => wp_Mo_shut o A16 (fun (A17 : Mem) => K A17)))))))))) ∧ (r5 = false → wp_Mo_variable0 o A4 (fun (r19 : Int32) (A18 : Mem) => wp_Mo_setArg o 0 r19 A18 (fun (A20 : Mem) => K A20))))))
set_option maxRecDepth 100000 in
set_option maxHeartbeats 4000000 in
theorem c_Mo_target (o : Nat) (A : Mem) (K : Mem → Prop) (h : wp_Mo_target o A K) : CtV y_Mo_target prog_14_method_31_code 1 5 131 (fun E => [cr E o]) A K := by
  refine ctV_of "BasicMachineModel" (by decide) rfl (fun E => [(0, cr E o)]) (fun E => by simp [lg_sl, cr_cat, ca_i, ca_l, ca_d]) (fun E => by simp [lv_args, cr_cat, ca_i, ca_l, ca_d]) (fun X E hX hR hN hQ => ?_)
  unfold wp_Mo_target at h
  refine g_aload_n (pc := 0) hX d_Mo_target_0 rfl 0 rfl ?_
  refine g_aload_n (pc := 1) hX d_Mo_target_1 rfl 0 rfl ?_
  obtain ⟨f3, h⟩ := h
  refine g_callV_I (pc := 2) hX hR f3 cf9 rfl lk_Mo_156 mf_Mo_look (c_Mo_look _ _ _ h) rfl rfl rfl ⟨by decide, by decide⟩ (cat_sum _ (Nat.le_of_ble_eq_true rfl)) d_Mo_target_2 (fun r2 A1 h => ?_)
  refine g_callV_Z (pc := 5) hX hR f3 cf9 rfl lk_Mo_241 mf_Mo_isMatrix (c_Mo_isMatrix _ _ _ _ h) rfl rfl rfl ⟨by decide, by decide⟩ (cat_sum _ (Nat.le_of_ble_eq_true rfl)) d_Mo_target_5 (fun r5 A4 h => ?_)
  refine g_ifB_ne (pc := 8) (tgt := 21) hX d_Mo_target_8 (by decide) (fun q => ?_) (fun q => ?_)
  · have h := h.1 q
    refine g_aload_n (pc := 21) hX d_Mo_target_21 rfl 0 rfl ?_
    refine g_iconst (pc := 22) (v := 0) hX d_Mo_target_22 (by decide) ?_
    refine g_bipush (pc := 23) (v := 26) hX d_Mo_target_23 (by decide) ?_
    refine g_aload_n (pc := 25) hX d_Mo_target_25 rfl 0 rfl ?_
    refine g_callV_I (pc := 26) hX hR f3 cf9 rfl lk_Mo_283 mf_Mo_matrix (c_Mo_matrix _ _ _ h) rfl rfl rfl ⟨by decide, by decide⟩ (cat_sum _ (Nat.le_of_ble_eq_true rfl)) d_Mo_target_26 (fun r7 A6 h => ?_)
    refine g_iadd (pc := 29) hX d_Mo_target_29 ?_
    refine g_callV_V (pc := 30) hX hR f3 cf9 rfl lk_Mo_279 mf_Mo_setArg (c_Mo_setArg _ _ _ _ _ h) rfl rfl rfl ⟨by decide, by decide⟩ (cat_sum _ (Nat.le_of_ble_eq_true rfl)) d_Mo_target_30 (fun A8 h => ?_)
    refine g_aload_n (pc := 33) hX d_Mo_target_33 rfl 0 rfl ?_
    refine g_callV_V (pc := 34) hX hR f3 cf9 rfl lk_Mo_267 mf_Mo_bracket (c_Mo_bracket _ _ _ h) rfl rfl rfl ⟨by decide, by decide⟩ (cat_sum _ (Nat.le_of_ble_eq_true rfl)) d_Mo_target_34 (fun A9 h => ?_)
    refine g_aload_n (pc := 37) hX d_Mo_target_37 rfl 0 rfl ?_
    refine g_iconst (pc := 38) (v := 0) hX d_Mo_target_38 (by decide) ?_
    refine g_aload_n (pc := 39) hX d_Mo_target_39 rfl 0 rfl ?_
    refine g_iconst (pc := 40) (v := 0) hX d_Mo_target_40 (by decide) ?_
    refine g_callV_I (pc := 41) hX hR f3 cf9 rfl lk_Mo_286 mf_Mo_expression (c_Mo_expression _ _ _ _ h) rfl rfl rfl ⟨by decide, by decide⟩ (cat_sum _ (Nat.le_of_ble_eq_true rfl)) d_Mo_target_41 (fun r11 A10 h => ?_)
    refine g_callV_V (pc := 44) hX hR f3 cf9 rfl lk_Mo_290 mf_Mo_setExpr (c_Mo_setExpr _ _ _ _ _ h) rfl rfl rfl ⟨by decide, by decide⟩ (cat_sum _ (Nat.le_of_ble_eq_true rfl)) d_Mo_target_44 (fun A12 h => ?_)
    refine g_aload_n (pc := 47) hX d_Mo_target_47 rfl 0 rfl ?_
    refine g_bipush (pc := 48) (v := 44) hX d_Mo_target_48 (by decide) ?_
    refine g_callV_V (pc := 50) hX hR f3 cf9 rfl lk_Mo_248 mf_Mo_need (c_Mo_need _ _ _ _ h) rfl rfl rfl ⟨by decide, by decide⟩ (cat_sum _ (Nat.le_of_ble_eq_true rfl)) d_Mo_target_50 (fun A13 h => ?_)
    refine g_aload_n (pc := 53) hX d_Mo_target_53 rfl 0 rfl ?_
    refine g_iconst (pc := 54) (v := 1) hX d_Mo_target_54 (by decide) ?_
    refine g_aload_n (pc := 55) hX d_Mo_target_55 rfl 0 rfl ?_
    refine g_iconst (pc := 56) (v := 0) hX d_Mo_target_56 (by decide) ?_
    refine g_callV_I (pc := 57) hX hR f3 cf9 rfl lk_Mo_286 mf_Mo_expression (c_Mo_expression _ _ _ _ h) rfl rfl rfl ⟨by decide, by decide⟩ (cat_sum _ (Nat.le_of_ble_eq_true rfl)) d_Mo_target_57 (fun r15 A14 h => ?_)
    refine g_callV_V (pc := 60) hX hR f3 cf9 rfl lk_Mo_290 mf_Mo_setExpr (c_Mo_setExpr _ _ _ _ _ h) rfl rfl rfl ⟨by decide, by decide⟩ (cat_sum _ (Nat.le_of_ble_eq_true rfl)) d_Mo_target_60 (fun A16 h => ?_)
    refine g_aload_n (pc := 63) hX d_Mo_target_63 rfl 0 rfl ?_
    refine g_callV_V (pc := 64) hX hR f3 cf9 rfl lk_Mo_293 mf_Mo_shut (c_Mo_shut _ _ _ h) rfl rfl rfl ⟨by decide, by decide⟩ (cat_sum _ (Nat.le_of_ble_eq_true rfl)) d_Mo_target_64 (fun A17 h => ?_)
    exact g_vret hX hQ h d_Mo_target_67
  · have h := h.2 q
    refine g_aload_n (pc := 11) hX d_Mo_target_11 rfl 0 rfl ?_
    refine g_iconst (pc := 12) (v := 0) hX d_Mo_target_12 (by decide) ?_
    refine g_aload_n (pc := 13) hX d_Mo_target_13 rfl 0 rfl ?_
    refine g_callV_I (pc := 14) hX hR f3 cf9 rfl lk_Mo_261 mf_Mo_variable0 (c_Mo_variable0 _ _ _ h) rfl rfl rfl ⟨by decide, by decide⟩ (cat_sum _ (Nat.le_of_ble_eq_true rfl)) d_Mo_target_14 (fun r19 A18 h => ?_)
    refine g_callV_V (pc := 17) hX hR f3 cf9 rfl lk_Mo_279 mf_Mo_setArg (c_Mo_setArg _ _ _ _ _ h) rfl rfl rfl ⟨by decide, by decide⟩ (cat_sum _ (Nat.le_of_ble_eq_true rfl)) d_Mo_target_17 (fun A20 h => ?_)
    exact g_vret hX hQ h d_Mo_target_20
def wp_Mo_condition_c99 (K : Mem → Prop) (x0 : Nat) (x1 : Int32) (A : Mem) : Prop := kd x0 = 9 ∧ wp_Mo_setArg x0 1 x1 A (fun (A18 : Mem) => wp_Mo_expression x0 0 A18 (fun (r21 : Int32) (A20 : Mem) => wp_Mo_setExpr x0 1 r21 A20 (fun (A22 : Mem) => wp_Mo_takeWord x0 17 17 A22 (fun (r24 : Int32) (A23 : Mem) => wp_Mo_lineNumber x0 A23 (fun (r26 : Int32) (A25 : Mem) => wp_Mo_setArg x0 0 r26 A25 (fun (A27 : Mem) => K A27))))))
def wp_Mo_condition_c89 (K : Mem → Prop) (x0 : Nat) (s0 : Int32) (A : Mem) : Prop := ((0 ≤ s0 → wp_Mo_condition_c99 K x0 s0 A) ∧ (¬ 0 ≤ s0 → kd x0 = 9 ∧ wp_Mo_condition_c99 K x0 s0 (sI A x0 7 1)))
def wp_Mo_condition (o : Nat) (A : Mem) (K : Mem → Prop) : Prop := kd o = 9 ∧ wp_Mo_expression o 0 A (fun (r2 : Int32) (A1 : Mem) => wp_Mo_setExpr o 0 r2 A1 (fun (A4 : Mem) => wp_Mo_take o 61 A4 (fun (r6 : Bool) (A5 : Mem) => ((r6 = false → wp_Mo_take o 60 A5 (fun (r8 : Bool) (A7 : Mem) => ((r8 = false → wp_Mo_take o 62 A7 (fun (r10 : Bool) (A9 : Mem) => ((r10 = false → wp_Mo_condition_c89 K o (-1) A9) ∧ (r10 = true → wp_Mo_take o 61 A9 (fun (r12 : Bool) (A11 : Mem) => ((r12 = false → wp_Mo_condition_c89 K o 2 A11) ∧ (r12 = true → wp_Mo_condition_c89 K o 4 A11))))))) ∧ (r8 = true → wp_Mo_take o 61 A7 (fun (r14 : Bool) (A13 : Mem) => ((r14 = false → wp_Mo_take o 62 A13 (fun (r16 : Bool) (A15 : Mem) => ((r16 = false → wp_Mo_condition_c89 K o 1 A15) ∧ (r16 = true → wp_Mo_condition_c89 K o 5 A15)))) ∧ (r14 = true → wp_Mo_condition_c89 K o 3 A13))))))) ∧ (r6 = true → wp_Mo_condition_c89 K o 0 A5)))))
set_option maxRecDepth 100000 in
set_option maxHeartbeats 4000000 in
theorem k_Mo_condition_c99 {X : CXT} {E : EVT} {K : Mem → Prop} (hX : Gd X E "BasicMachineModel" prog_14_method_32_code) (hR : Rm X 5 131) (hN : xnL X = 2) (hQ : QV X E K) (x0 : Nat) (x1 : Int32) (A : Mem) (h : wp_Mo_condition_c99 K x0 x1 A) : G X E A 99 [(0, cr E x0), (1, .int (x1))] [] := by
  unfold wp_Mo_condition_c99 at h
  refine g_aload_n (pc := 99) hX d_Mo_condition_99 rfl 0 rfl ?_
  refine g_iconst (pc := 100) (v := 1) hX d_Mo_condition_100 (by decide) ?_
  refine g_iload_n (pc := 101) hX d_Mo_condition_101 rfl 1 rfl ?_
  obtain ⟨f19, h⟩ := h
  refine g_callV_V (pc := 102) hX hR f19 cf9 rfl lk_Mo_279 mf_Mo_setArg (c_Mo_setArg _ _ _ _ _ h) rfl rfl rfl ⟨by decide, by decide⟩ (cat_sum _ (Nat.le_of_ble_eq_true rfl)) d_Mo_condition_102 (fun A18 h => ?_)
  refine g_aload_n (pc := 105) hX d_Mo_condition_105 rfl 0 rfl ?_
  refine g_iconst (pc := 106) (v := 1) hX d_Mo_condition_106 (by decide) ?_
  refine g_aload_n (pc := 107) hX d_Mo_condition_107 rfl 0 rfl ?_
  refine g_iconst (pc := 108) (v := 0) hX d_Mo_condition_108 (by decide) ?_
  refine g_callV_I (pc := 109) hX hR f19 cf9 rfl lk_Mo_286 mf_Mo_expression (c_Mo_expression _ _ _ _ h) rfl rfl rfl ⟨by decide, by decide⟩ (cat_sum _ (Nat.le_of_ble_eq_true rfl)) d_Mo_condition_109 (fun r21 A20 h => ?_)
  refine g_callV_V (pc := 112) hX hR f19 cf9 rfl lk_Mo_290 mf_Mo_setExpr (c_Mo_setExpr _ _ _ _ _ h) rfl rfl rfl ⟨by decide, by decide⟩ (cat_sum _ (Nat.le_of_ble_eq_true rfl)) d_Mo_condition_112 (fun A22 h => ?_)
  refine g_aload_n (pc := 115) hX d_Mo_condition_115 rfl 0 rfl ?_
  refine g_bipush (pc := 116) (v := 17) hX d_Mo_condition_116 (by decide) ?_
  refine g_bipush (pc := 118) (v := 17) hX d_Mo_condition_118 (by decide) ?_
  refine g_callV_I (pc := 120) hX hR f19 cf9 rfl lk_Mo_257 mf_Mo_takeWord (c_Mo_takeWord _ _ _ _ _ h) rfl rfl rfl ⟨by decide, by decide⟩ (cat_sum _ (Nat.le_of_ble_eq_true rfl)) d_Mo_condition_120 (fun r24 A23 h => ?_)
  refine g_pop (pc := 123) hX d_Mo_condition_123 rfl ?_
  refine g_aload_n (pc := 124) hX d_Mo_condition_124 rfl 0 rfl ?_
  refine g_iconst (pc := 125) (v := 0) hX d_Mo_condition_125 (by decide) ?_
  refine g_aload_n (pc := 126) hX d_Mo_condition_126 rfl 0 rfl ?_
  refine g_callV_I (pc := 127) hX hR f19 cf9 rfl lk_Mo_296 mf_Mo_lineNumber (c_Mo_lineNumber _ _ _ h) rfl rfl rfl ⟨by decide, by decide⟩ (cat_sum _ (Nat.le_of_ble_eq_true rfl)) d_Mo_condition_127 (fun r26 A25 h => ?_)
  refine g_callV_V (pc := 130) hX hR f19 cf9 rfl lk_Mo_279 mf_Mo_setArg (c_Mo_setArg _ _ _ _ _ h) rfl rfl rfl ⟨by decide, by decide⟩ (cat_sum _ (Nat.le_of_ble_eq_true rfl)) d_Mo_condition_130 (fun A27 h => ?_)
  exact g_vret hX hQ h d_Mo_condition_133
set_option maxRecDepth 100000 in
set_option maxHeartbeats 4000000 in
theorem k_Mo_condition_c89 {X : CXT} {E : EVT} {K : Mem → Prop} (hX : Gd X E "BasicMachineModel" prog_14_method_32_code) (hR : Rm X 5 131) (hN : xnL X = 2) (hQ : QV X E K) (x0 : Nat) (s0 : Int32) (A : Mem) (h : wp_Mo_condition_c89 K x0 s0 A) : G X E A 89 [(0, cr E x0)] [.int (s0)] := by
  unfold wp_Mo_condition_c89 at h
  refine g_istore_n (pc := 89) (lv0 := [(0, cr E x0)]) hX d_Mo_condition_89 rfl (by rw [hN]; decide) (g_st1b (ks := [0]) rfl (cr_cat _ _) rfl rfl) ?_
  refine g_iload_n (pc := 90) hX d_Mo_condition_90 rfl 0 rfl ?_
  refine g_if_ge (pc := 91) (tgt := 99) hX d_Mo_condition_91 (by decide) (fun q => ?_) (fun q => ?_)
  · have h := h.1 q
    refine g_sub [1, 0] rfl ?_
    exact k_Mo_condition_c99 hX hR hN hQ _ _ _ h
  · have h := h.2 q
    refine g_aload_n (pc := 94) hX d_Mo_condition_94 rfl 1 rfl ?_
    refine g_iconst (pc := 95) (v := 1) hX d_Mo_condition_95 (by decide) ?_
    obtain ⟨f17, h⟩ := h
    refine g_putZ (pc := 96) hX (Or.inr rfl) fl_Mo_31 rfl rfl rfl f17 d_Mo_condition_96 ?_
    refine g_sub [1, 0] rfl ?_
    exact k_Mo_condition_c99 hX hR hN hQ _ _ _ h
set_option maxRecDepth 100000 in
set_option maxHeartbeats 4000000 in
theorem c_Mo_condition (o : Nat) (A : Mem) (K : Mem → Prop) (h : wp_Mo_condition o A K) : CtV y_Mo_condition prog_14_method_32_code 2 5 131 (fun E => [cr E o]) A K := by
  refine ctV_of "BasicMachineModel" (by decide) rfl (fun E => [(0, cr E o)]) (fun E => by simp [lg_sl, cr_cat, ca_i, ca_l, ca_d]) (fun E => by simp [lv_args, cr_cat, ca_i, ca_l, ca_d]) (fun X E hX hR hN hQ => ?_)
  unfold wp_Mo_condition at h
  refine g_aload_n (pc := 0) hX d_Mo_condition_0 rfl 0 rfl ?_
  refine g_iconst (pc := 1) (v := 0) hX d_Mo_condition_1 (by decide) ?_
  refine g_aload_n (pc := 2) hX d_Mo_condition_2 rfl 0 rfl ?_
  refine g_iconst (pc := 3) (v := 0) hX d_Mo_condition_3 (by decide) ?_
  obtain ⟨f3, h⟩ := h
  refine g_callV_I (pc := 4) hX hR f3 cf9 rfl lk_Mo_286 mf_Mo_expression (c_Mo_expression _ _ _ _ h) rfl rfl rfl ⟨by decide, by decide⟩ (cat_sum _ (Nat.le_of_ble_eq_true rfl)) d_Mo_condition_4 (fun r2 A1 h => ?_)
  refine g_callV_V (pc := 7) hX hR f3 cf9 rfl lk_Mo_290 mf_Mo_setExpr (c_Mo_setExpr _ _ _ _ _ h) rfl rfl rfl ⟨by decide, by decide⟩ (cat_sum _ (Nat.le_of_ble_eq_true rfl)) d_Mo_condition_7 (fun A4 h => ?_)
  refine g_aload_n (pc := 10) hX d_Mo_condition_10 rfl 0 rfl ?_
  refine g_bipush (pc := 11) (v := 61) hX d_Mo_condition_11 (by decide) ?_
  refine g_callV_Z (pc := 13) hX hR f3 cf9 rfl lk_Mo_160 mf_Mo_take (c_Mo_take _ _ _ _ h) rfl rfl rfl ⟨by decide, by decide⟩ (cat_sum _ (Nat.le_of_ble_eq_true rfl)) d_Mo_condition_13 (fun r6 A5 h => ?_)
  refine g_ifB_eq (pc := 16) (tgt := 23) hX d_Mo_condition_16 (by decide) (fun q => ?_) (fun q => ?_)
  · have h := h.1 q
    refine g_aload_n (pc := 23) hX d_Mo_condition_23 rfl 0 rfl ?_
    refine g_bipush (pc := 24) (v := 60) hX d_Mo_condition_24 (by decide) ?_
    refine g_callV_Z (pc := 26) hX hR f3 cf9 rfl lk_Mo_160 mf_Mo_take (c_Mo_take _ _ _ _ h) rfl rfl rfl ⟨by decide, by decide⟩ (cat_sum _ (Nat.le_of_ble_eq_true rfl)) d_Mo_condition_26 (fun r8 A7 h => ?_)
    refine g_ifB_eq (pc := 29) (tgt := 62) hX d_Mo_condition_29 (by decide) (fun q => ?_) (fun q => ?_)
    · have h := h.1 q
      refine g_aload_n (pc := 62) hX d_Mo_condition_62 rfl 0 rfl ?_
      refine g_bipush (pc := 63) (v := 62) hX d_Mo_condition_63 (by decide) ?_
      refine g_callV_Z (pc := 65) hX hR f3 cf9 rfl lk_Mo_160 mf_Mo_take (c_Mo_take _ _ _ _ h) rfl rfl rfl ⟨by decide, by decide⟩ (cat_sum _ (Nat.le_of_ble_eq_true rfl)) d_Mo_condition_65 (fun r10 A9 h => ?_)
      refine g_ifB_eq (pc := 68) (tgt := 88) hX d_Mo_condition_68 (by decide) (fun q => ?_) (fun q => ?_)
      · have h := h.1 q
        refine g_iconst (pc := 88) (v := (-1)) hX d_Mo_condition_88 (by decide) ?_
        refine g_sub [0] rfl ?_
        exact k_Mo_condition_c89 hX hR hN hQ _ _ _ h
      · have h := h.2 q
        refine g_aload_n (pc := 71) hX d_Mo_condition_71 rfl 0 rfl ?_
        refine g_bipush (pc := 72) (v := 61) hX d_Mo_condition_72 (by decide) ?_
        refine g_callV_Z (pc := 74) hX hR f3 cf9 rfl lk_Mo_160 mf_Mo_take (c_Mo_take _ _ _ _ h) rfl rfl rfl ⟨by decide, by decide⟩ (cat_sum _ (Nat.le_of_ble_eq_true rfl)) d_Mo_condition_74 (fun r12 A11 h => ?_)
        refine g_ifB_eq (pc := 77) (tgt := 84) hX d_Mo_condition_77 (by decide) (fun q => ?_) (fun q => ?_)
        · have h := h.1 q
          refine g_iconst (pc := 84) (v := 2) hX d_Mo_condition_84 (by decide) ?_
          refine g_goto (pc := 85) (tgt := 89) hX d_Mo_condition_85 (by decide) ?_
          refine g_sub [0] rfl ?_
          exact k_Mo_condition_c89 hX hR hN hQ _ _ _ h
        · have h := h.2 q
          refine g_iconst (pc := 80) (v := 4) hX d_Mo_condition_80 (by decide) ?_
          refine g_goto (pc := 81) (tgt := 89) hX d_Mo_condition_81 (by decide) ?_
          refine g_sub [0] rfl ?_
          exact k_Mo_condition_c89 hX hR hN hQ _ _ _ h
    · have h := h.2 q
      refine g_aload_n (pc := 32) hX d_Mo_condition_32 rfl 0 rfl ?_
      refine g_bipush (pc := 33) (v := 61) hX d_Mo_condition_33 (by decide) ?_
      refine g_callV_Z (pc := 35) hX hR f3 cf9 rfl lk_Mo_160 mf_Mo_take (c_Mo_take _ _ _ _ h) rfl rfl rfl ⟨by decide, by decide⟩ (cat_sum _ (Nat.le_of_ble_eq_true rfl)) d_Mo_condition_35 (fun r14 A13 h => ?_)
      refine g_ifB_eq (pc := 38) (tgt := 45) hX d_Mo_condition_38 (by decide) (fun q => ?_) (fun q => ?_)
      · have h := h.1 q
        refine g_aload_n (pc := 45) hX d_Mo_condition_45 rfl 0 rfl ?_
        refine g_bipush (pc := 46) (v := 62) hX d_Mo_condition_46 (by decide) ?_
        refine g_callV_Z (pc := 48) hX hR f3 cf9 rfl lk_Mo_160 mf_Mo_take (c_Mo_take _ _ _ _ h) rfl rfl rfl ⟨by decide, by decide⟩ (cat_sum _ (Nat.le_of_ble_eq_true rfl)) d_Mo_condition_48 (fun r16 A15 h => ?_)
        refine g_ifB_eq (pc := 51) (tgt := 58) hX d_Mo_condition_51 (by decide) (fun q => ?_) (fun q => ?_)
        · have h := h.1 q
          refine g_iconst (pc := 58) (v := 1) hX d_Mo_condition_58 (by decide) ?_
          refine g_goto (pc := 59) (tgt := 89) hX d_Mo_condition_59 (by decide) ?_
          refine g_sub [0] rfl ?_
          exact k_Mo_condition_c89 hX hR hN hQ _ _ _ h
        · have h := h.2 q
          refine g_iconst (pc := 54) (v := 5) hX d_Mo_condition_54 (by decide) ?_
          refine g_goto (pc := 55) (tgt := 89) hX d_Mo_condition_55 (by decide) ?_
          refine g_sub [0] rfl ?_
          exact k_Mo_condition_c89 hX hR hN hQ _ _ _ h
      · have h := h.2 q
        refine g_iconst (pc := 41) (v := 3) hX d_Mo_condition_41 (by decide) ?_
        refine g_goto (pc := 42) (tgt := 89) hX d_Mo_condition_42 (by decide) ?_
        refine g_sub [0] rfl ?_
        exact k_Mo_condition_c89 hX hR hN hQ _ _ _ h
  · have h := h.2 q
    refine g_iconst (pc := 19) (v := 0) hX d_Mo_condition_19 (by decide) ?_
    refine g_goto (pc := 20) (tgt := 89) hX d_Mo_condition_20 (by decide) ?_
    refine g_sub [0] rfl ?_
    exact k_Mo_condition_c89 hX hR hN hQ _ _ _ h
def wp_Mo_choice_c19 (K : Mem → Prop) : Nat → Nat → Int32 → Mem → Prop
  | 0, _, _, _ => False
  | n + 1, x0, x1, A => kd x0 = 9 ∧ ((¬ (gI A x0 7) = 0 → wp_Mo_setArg x0 0 x1 A (fun (A8 : Mem) => K A8)) ∧ ((gI A x0 7) = 0 → ((4 ≤ x1 → wp_Mo_setArg x0 0 x1 A (fun (A9 : Mem) => K A9)) ∧ (¬ 4 ≤ x1 → wp_Mo_lineNumber x0 A (fun (r11 : Int32) (A10 : Mem) => wp_Mo_setArg x0 (x1 + 1) r11 A10 (fun (A12 : Mem) => (((x1 + 1) = 4 → wp_Mo_setArg x0 0 (x1 + 1) A12 (fun (A13 : Mem) => K A13)) ∧ (¬ (x1 + 1) = 4 → wp_Mo_take x0 44 A12 (fun (r15 : Bool) (A14 : Mem) => ((r15 = true → wp_Mo_choice_c19 K n x0 (x1 + 1) A14) ∧ (r15 = false → wp_Mo_setArg x0 0 (x1 + 1) A14 (fun (A16 : Mem) => K A16))))))))))))
def wp_Mo_choice (o : Nat) (A : Mem) (K : Mem → Prop) : Prop := kd o = 9 ∧ wp_Mo_expression o 1 A (fun (r2 : Int32) (A1 : Mem) => wp_Mo_setExpr o 0 r2 A1 (fun (A4 : Mem) => wp_Mo_takeWord o 3 3 A4 (fun (r6 : Int32) (A5 : Mem) => (∃ n9 : Nat, wp_Mo_choice_c19 K n9 o 0 A5))))
set_option maxRecDepth 100000 in
set_option maxHeartbeats 4000000 in
theorem k_Mo_choice_c19 {X : CXT} {E : EVT} {K : Mem → Prop} (hX : Gd X E "BasicMachineModel" prog_14_method_33_code) (hR : Rm X 5 131) (hN : xnL X = 2) (hQ : QV X E K) : ∀ (n : Nat) (x0 : Nat) (x1 : Int32) (A : Mem), wp_Mo_choice_c19 K n x0 x1 A → G X E A 19 [(0, cr E x0), (1, .int (x1))] [] := by
  intro n
  induction n with
  | zero => intro x0 x1 A h; exact h.elim
  | succ n ih =>
    intro x0 x1 A h
    rw [wp_Mo_choice_c19] at h
    refine g_aload_n (pc := 19) hX d_Mo_choice_19 rfl 0 rfl ?_
    obtain ⟨f7, h⟩ := h
    refine g_getI (pc := 20) hX fl_Mo_31 rfl f7 d_Mo_choice_20 ?_
    refine g_if_ne (pc := 23) (tgt := 60) hX d_Mo_choice_23 (by decide) (fun q => ?_) (fun q => ?_)
    · have h := h.1 q
      refine g_aload_n (pc := 60) hX d_Mo_choice_60 rfl 0 rfl ?_
      refine g_iconst (pc := 61) (v := 0) hX d_Mo_choice_61 (by decide) ?_
      refine g_iload_n (pc := 62) hX d_Mo_choice_62 rfl 1 rfl ?_
      refine g_callV_V (pc := 63) hX hR f7 cf9 rfl lk_Mo_279 mf_Mo_setArg (c_Mo_setArg _ _ _ _ _ h) rfl rfl rfl ⟨by decide, by decide⟩ (cat_sum _ (Nat.le_of_ble_eq_true rfl)) d_Mo_choice_63 (fun A8 h => ?_)
      exact g_vret hX hQ h d_Mo_choice_66
    · have h := h.2 q
      refine g_iload_n (pc := 26) hX d_Mo_choice_26 rfl 1 rfl ?_
      refine g_iconst (pc := 27) (v := 4) hX d_Mo_choice_27 (by decide) ?_
      refine g_icmp_ge (pc := 28) (tgt := 60) hX d_Mo_choice_28 (by decide) (fun q => ?_) (fun q => ?_)
      · have h := h.1 q
        refine g_aload_n (pc := 60) hX d_Mo_choice_60 rfl 0 rfl ?_
        refine g_iconst (pc := 61) (v := 0) hX d_Mo_choice_61 (by decide) ?_
        refine g_iload_n (pc := 62) hX d_Mo_choice_62 rfl 1 rfl ?_
        refine g_callV_V (pc := 63) hX hR f7 cf9 rfl lk_Mo_279 mf_Mo_setArg (c_Mo_setArg _ _ _ _ _ h) rfl rfl rfl ⟨by decide, by decide⟩ (cat_sum _ (Nat.le_of_ble_eq_true rfl)) d_Mo_choice_63 (fun A9 h => ?_)
        exact g_vret hX hQ h d_Mo_choice_66
      · have h := h.2 q
        refine g_iinc (pc := 31) (v := (x1 + 1)) (lv0 := [(0, cr E x0)]) hX d_Mo_choice_31 1 rfl rfl (by rw [hN]; decide) (g_st1b (ks := [0]) rfl (cr_cat _ _) rfl rfl) ?_
        refine g_aload_n (pc := 34) hX d_Mo_choice_34 rfl 1 rfl ?_
        refine g_iload_n (pc := 35) hX d_Mo_choice_35 rfl 0 rfl ?_
        refine g_aload_n (pc := 36) hX d_Mo_choice_36 rfl 1 rfl ?_
        refine g_callV_I (pc := 37) hX hR f7 cf9 rfl lk_Mo_296 mf_Mo_lineNumber (c_Mo_lineNumber _ _ _ h) rfl rfl rfl ⟨by decide, by decide⟩ (cat_sum _ (Nat.le_of_ble_eq_true rfl)) d_Mo_choice_37 (fun r11 A10 h => ?_)
        refine g_callV_V (pc := 40) hX hR f7 cf9 rfl lk_Mo_279 mf_Mo_setArg (c_Mo_setArg _ _ _ _ _ h) rfl rfl rfl ⟨by decide, by decide⟩ (cat_sum _ (Nat.le_of_ble_eq_true rfl)) d_Mo_choice_40 (fun A12 h => ?_)
        refine g_iload_n (pc := 43) hX d_Mo_choice_43 rfl 0 rfl ?_
        refine g_iconst (pc := 44) (v := 4) hX d_Mo_choice_44 (by decide) ?_
        refine g_icmp_eq (pc := 45) (tgt := 60) hX d_Mo_choice_45 (by decide) (fun q => ?_) (fun q => ?_)
        · have h := h.1 q
          refine g_aload_n (pc := 60) hX d_Mo_choice_60 rfl 1 rfl ?_
          refine g_iconst (pc := 61) (v := 0) hX d_Mo_choice_61 (by decide) ?_
          refine g_iload_n (pc := 62) hX d_Mo_choice_62 rfl 0 rfl ?_
          refine g_callV_V (pc := 63) hX hR f7 cf9 rfl lk_Mo_279 mf_Mo_setArg (c_Mo_setArg _ _ _ _ _ h) rfl rfl rfl ⟨by decide, by decide⟩ (cat_sum _ (Nat.le_of_ble_eq_true rfl)) d_Mo_choice_63 (fun A13 h => ?_)
          exact g_vret hX hQ h d_Mo_choice_66
        · have h := h.2 q
          refine g_aload_n (pc := 48) hX d_Mo_choice_48 rfl 1 rfl ?_
          refine g_bipush (pc := 49) (v := 44) hX d_Mo_choice_49 (by decide) ?_
          refine g_callV_Z (pc := 51) hX hR f7 cf9 rfl lk_Mo_160 mf_Mo_take (c_Mo_take _ _ _ _ h) rfl rfl rfl ⟨by decide, by decide⟩ (cat_sum _ (Nat.le_of_ble_eq_true rfl)) d_Mo_choice_51 (fun r15 A14 h => ?_)
          refine g_ifB_ne (pc := 54) (tgt := 19) hX d_Mo_choice_54 (by decide) (fun q => ?_) (fun q => ?_)
          · have h := h.1 q
            refine g_sub [1, 0] rfl ?_
            exact ih _ _ _ h
          · have h := h.2 q
            refine g_goto (pc := 57) (tgt := 60) hX d_Mo_choice_57 (by decide) ?_
            refine g_aload_n (pc := 60) hX d_Mo_choice_60 rfl 1 rfl ?_
            refine g_iconst (pc := 61) (v := 0) hX d_Mo_choice_61 (by decide) ?_
            refine g_iload_n (pc := 62) hX d_Mo_choice_62 rfl 0 rfl ?_
            refine g_callV_V (pc := 63) hX hR f7 cf9 rfl lk_Mo_279 mf_Mo_setArg (c_Mo_setArg _ _ _ _ _ h) rfl rfl rfl ⟨by decide, by decide⟩ (cat_sum _ (Nat.le_of_ble_eq_true rfl)) d_Mo_choice_63 (fun A16 h => ?_)
            exact g_vret hX hQ h d_Mo_choice_66
set_option maxRecDepth 100000 in
set_option maxHeartbeats 4000000 in
theorem c_Mo_choice (o : Nat) (A : Mem) (K : Mem → Prop) (h : wp_Mo_choice o A K) : CtV y_Mo_choice prog_14_method_33_code 2 5 131 (fun E => [cr E o]) A K := by
  refine ctV_of "BasicMachineModel" (by decide) rfl (fun E => [(0, cr E o)]) (fun E => by simp [lg_sl, cr_cat, ca_i, ca_l, ca_d]) (fun E => by simp [lv_args, cr_cat, ca_i, ca_l, ca_d]) (fun X E hX hR hN hQ => ?_)
  unfold wp_Mo_choice at h
  refine g_aload_n (pc := 0) hX d_Mo_choice_0 rfl 0 rfl ?_
  refine g_iconst (pc := 1) (v := 0) hX d_Mo_choice_1 (by decide) ?_
  refine g_aload_n (pc := 2) hX d_Mo_choice_2 rfl 0 rfl ?_
  refine g_iconst (pc := 3) (v := 1) hX d_Mo_choice_3 (by decide) ?_
  obtain ⟨f3, h⟩ := h
  refine g_callV_I (pc := 4) hX hR f3 cf9 rfl lk_Mo_286 mf_Mo_expression (c_Mo_expression _ _ _ _ h) rfl rfl rfl ⟨by decide, by decide⟩ (cat_sum _ (Nat.le_of_ble_eq_true rfl)) d_Mo_choice_4 (fun r2 A1 h => ?_)
  refine g_callV_V (pc := 7) hX hR f3 cf9 rfl lk_Mo_290 mf_Mo_setExpr (c_Mo_setExpr _ _ _ _ _ h) rfl rfl rfl ⟨by decide, by decide⟩ (cat_sum _ (Nat.le_of_ble_eq_true rfl)) d_Mo_choice_7 (fun A4 h => ?_)
  refine g_aload_n (pc := 10) hX d_Mo_choice_10 rfl 0 rfl ?_
  refine g_iconst (pc := 11) (v := 3) hX d_Mo_choice_11 (by decide) ?_
  refine g_iconst (pc := 12) (v := 3) hX d_Mo_choice_12 (by decide) ?_
  refine g_callV_I (pc := 13) hX hR f3 cf9 rfl lk_Mo_257 mf_Mo_takeWord (c_Mo_takeWord _ _ _ _ _ h) rfl rfl rfl ⟨by decide, by decide⟩ (cat_sum _ (Nat.le_of_ble_eq_true rfl)) d_Mo_choice_13 (fun r6 A5 h => ?_)
  refine g_pop (pc := 16) hX d_Mo_choice_16 rfl ?_
  refine g_iconst (pc := 17) (v := 0) hX d_Mo_choice_17 (by decide) ?_
  refine g_istore_n (pc := 18) (lv0 := [(0, cr E o)]) hX d_Mo_choice_18 rfl (by rw [hN]; decide) (g_st1b (ks := [0]) rfl (cr_cat _ _) rfl rfl) ?_
  refine g_sub [1, 0] rfl ?_
  obtain ⟨n9, h⟩ := h
  exact k_Mo_choice_c19 hX hR hN hQ n9 _ _ _ h
def wp_Mo_loop (o : Nat) (A : Mem) (K : Mem → Prop) : Prop := kd o = 9 ∧ wp_Mo_variable0 o A (fun (r2 : Int32) (A1 : Mem) => wp_Mo_setArg o 0 r2 A1 (fun (A4 : Mem) => wp_Mo_need o 61 A4 (fun (A5 : Mem) => wp_Mo_expression o 0 A5 (fun (r7 : Int32) (A6 : Mem) => wp_Mo_setExpr o 0 r7 A6 (fun (A8 : Mem) => wp_Mo_takeWord o 18 18 A8 (fun (r10 : Int32) (A9 : Mem) => wp_Mo_expression o 0 A9 (fun (r12 : Int32) (A11 : Mem) => wp_Mo_setExpr o 1 r12 A11 (fun (A13 : Mem) => wp_Mo_setArg o 1 0 A13 (fun (A14 : Mem) => ((¬ (gI A14 o 7) = 0 → K A14) ∧ ((gI A14 o 7) = 0 → wp_Mo_look o A14 (fun (r16 : Int32) (A15 : Mem) => ((r16 = 83 → wp_Mo_takeWord o 19 19 A15 (fun (r18 : Int32) (A17 : Mem) => wp_Mo_setArg o 1 1 A17 (fun (A19 : Mem) => wp_Mo_expression o 0 A19 (fun (r21 : Int32) (A20 : Mem) => wp_Mo_setExpr o 2 r21 A20 (fun (A22 : Mem) => K A22))))) ∧ (¬ r16 = 83 → K A15))))))))))))))
set_option maxRecDepth 100000 in
set_option maxHeartbeats 4000000 in
theorem c_Mo_loop (o : Nat) (A : Mem) (K : Mem → Prop) (h : wp_Mo_loop o A K) : CtV y_Mo_loop prog_14_method_34_code 1 5 131 (fun E => [cr E o]) A K := by
  refine ctV_of "BasicMachineModel" (by decide) rfl (fun E => [(0, cr E o)]) (fun E => by simp [lg_sl, cr_cat, ca_i, ca_l, ca_d]) (fun E => by simp [lv_args, cr_cat, ca_i, ca_l, ca_d]) (fun X E hX hR hN hQ => ?_)
  unfold wp_Mo_loop at h
  refine g_aload_n (pc := 0) hX d_Mo_loop_0 rfl 0 rfl ?_
  refine g_iconst (pc := 1) (v := 0) hX d_Mo_loop_1 (by decide) ?_
  refine g_aload_n (pc := 2) hX d_Mo_loop_2 rfl 0 rfl ?_
  obtain ⟨f3, h⟩ := h
  refine g_callV_I (pc := 3) hX hR f3 cf9 rfl lk_Mo_261 mf_Mo_variable0 (c_Mo_variable0 _ _ _ h) rfl rfl rfl ⟨by decide, by decide⟩ (cat_sum _ (Nat.le_of_ble_eq_true rfl)) d_Mo_loop_3 (fun r2 A1 h => ?_)
  refine g_callV_V (pc := 6) hX hR f3 cf9 rfl lk_Mo_279 mf_Mo_setArg (c_Mo_setArg _ _ _ _ _ h) rfl rfl rfl ⟨by decide, by decide⟩ (cat_sum _ (Nat.le_of_ble_eq_true rfl)) d_Mo_loop_6 (fun A4 h => ?_)
  refine g_aload_n (pc := 9) hX d_Mo_loop_9 rfl 0 rfl ?_
  refine g_bipush (pc := 10) (v := 61) hX d_Mo_loop_10 (by decide) ?_
  refine g_callV_V (pc := 12) hX hR f3 cf9 rfl lk_Mo_248 mf_Mo_need (c_Mo_need _ _ _ _ h) rfl rfl rfl ⟨by decide, by decide⟩ (cat_sum _ (Nat.le_of_ble_eq_true rfl)) d_Mo_loop_12 (fun A5 h => ?_)
  refine g_aload_n (pc := 15) hX d_Mo_loop_15 rfl 0 rfl ?_
  refine g_iconst (pc := 16) (v := 0) hX d_Mo_loop_16 (by decide) ?_
  refine g_aload_n (pc := 17) hX d_Mo_loop_17 rfl 0 rfl ?_
  refine g_iconst (pc := 18) (v := 0) hX d_Mo_loop_18 (by decide) ?_
  refine g_callV_I (pc := 19) hX hR f3 cf9 rfl lk_Mo_286 mf_Mo_expression (c_Mo_expression _ _ _ _ h) rfl rfl rfl ⟨by decide, by decide⟩ (cat_sum _ (Nat.le_of_ble_eq_true rfl)) d_Mo_loop_19 (fun r7 A6 h => ?_)
  refine g_callV_V (pc := 22) hX hR f3 cf9 rfl lk_Mo_290 mf_Mo_setExpr (c_Mo_setExpr _ _ _ _ _ h) rfl rfl rfl ⟨by decide, by decide⟩ (cat_sum _ (Nat.le_of_ble_eq_true rfl)) d_Mo_loop_22 (fun A8 h => ?_)
  refine g_aload_n (pc := 25) hX d_Mo_loop_25 rfl 0 rfl ?_
  refine g_bipush (pc := 26) (v := 18) hX d_Mo_loop_26 (by decide) ?_
  refine g_bipush (pc := 28) (v := 18) hX d_Mo_loop_28 (by decide) ?_
  refine g_callV_I (pc := 30) hX hR f3 cf9 rfl lk_Mo_257 mf_Mo_takeWord (c_Mo_takeWord _ _ _ _ _ h) rfl rfl rfl ⟨by decide, by decide⟩ (cat_sum _ (Nat.le_of_ble_eq_true rfl)) d_Mo_loop_30 (fun r10 A9 h => ?_)
  refine g_pop (pc := 33) hX d_Mo_loop_33 rfl ?_
  refine g_aload_n (pc := 34) hX d_Mo_loop_34 rfl 0 rfl ?_
  refine g_iconst (pc := 35) (v := 1) hX d_Mo_loop_35 (by decide) ?_
  refine g_aload_n (pc := 36) hX d_Mo_loop_36 rfl 0 rfl ?_
  refine g_iconst (pc := 37) (v := 0) hX d_Mo_loop_37 (by decide) ?_
  refine g_callV_I (pc := 38) hX hR f3 cf9 rfl lk_Mo_286 mf_Mo_expression (c_Mo_expression _ _ _ _ h) rfl rfl rfl ⟨by decide, by decide⟩ (cat_sum _ (Nat.le_of_ble_eq_true rfl)) d_Mo_loop_38 (fun r12 A11 h => ?_)
  refine g_callV_V (pc := 41) hX hR f3 cf9 rfl lk_Mo_290 mf_Mo_setExpr (c_Mo_setExpr _ _ _ _ _ h) rfl rfl rfl ⟨by decide, by decide⟩ (cat_sum _ (Nat.le_of_ble_eq_true rfl)) d_Mo_loop_41 (fun A13 h => ?_)
  refine g_aload_n (pc := 44) hX d_Mo_loop_44 rfl 0 rfl ?_
  refine g_iconst (pc := 45) (v := 1) hX d_Mo_loop_45 (by decide) ?_
  refine g_iconst (pc := 46) (v := 0) hX d_Mo_loop_46 (by decide) ?_
  refine g_callV_V (pc := 47) hX hR f3 cf9 rfl lk_Mo_279 mf_Mo_setArg (c_Mo_setArg _ _ _ _ _ h) rfl rfl rfl ⟨by decide, by decide⟩ (cat_sum _ (Nat.le_of_ble_eq_true rfl)) d_Mo_loop_47 (fun A14 h => ?_)
  refine g_aload_n (pc := 50) hX d_Mo_loop_50 rfl 0 rfl ?_
  refine g_getI (pc := 51) hX fl_Mo_31 rfl f3 d_Mo_loop_51 ?_
  refine g_if_ne (pc := 54) (tgt := 66) hX d_Mo_loop_54 (by decide) (fun q => ?_) (fun q => ?_)
  · have h := h.1 q
    exact g_vret hX hQ h d_Mo_loop_66
  · have h := h.2 q
    refine g_aload_n (pc := 57) hX d_Mo_loop_57 rfl 0 rfl ?_
    refine g_callV_I (pc := 58) hX hR f3 cf9 rfl lk_Mo_156 mf_Mo_look (c_Mo_look _ _ _ h) rfl rfl rfl ⟨by decide, by decide⟩ (cat_sum _ (Nat.le_of_ble_eq_true rfl)) d_Mo_loop_58 (fun r16 A15 h => ?_)
    refine g_bipush (pc := 61) (v := 83) hX d_Mo_loop_61 (by decide) ?_
    refine g_icmp_eq (pc := 63) (tgt := 67) hX d_Mo_loop_63 (by decide) (fun q => ?_) (fun q => ?_)
    · have h := h.1 q
      refine g_aload_n (pc := 67) hX d_Mo_loop_67 rfl 0 rfl ?_
      refine g_bipush (pc := 68) (v := 19) hX d_Mo_loop_68 (by decide) ?_
      refine g_bipush (pc := 70) (v := 19) hX d_Mo_loop_70 (by decide) ?_
      refine g_callV_I (pc := 72) hX hR f3 cf9 rfl lk_Mo_257 mf_Mo_takeWord (c_Mo_takeWord _ _ _ _ _ h) rfl rfl rfl ⟨by decide, by decide⟩ (cat_sum _ (Nat.le_of_ble_eq_true rfl)) d_Mo_loop_72 (fun r18 A17 h => ?_)
      refine g_pop (pc := 75) hX d_Mo_loop_75 rfl ?_
      refine g_aload_n (pc := 76) hX d_Mo_loop_76 rfl 0 rfl ?_
      refine g_iconst (pc := 77) (v := 1) hX d_Mo_loop_77 (by decide) ?_
      refine g_iconst (pc := 78) (v := 1) hX d_Mo_loop_78 (by decide) ?_
      refine g_callV_V (pc := 79) hX hR f3 cf9 rfl lk_Mo_279 mf_Mo_setArg (c_Mo_setArg _ _ _ _ _ h) rfl rfl rfl ⟨by decide, by decide⟩ (cat_sum _ (Nat.le_of_ble_eq_true rfl)) d_Mo_loop_79 (fun A19 h => ?_)
      refine g_aload_n (pc := 82) hX d_Mo_loop_82 rfl 0 rfl ?_
      refine g_iconst (pc := 83) (v := 2) hX d_Mo_loop_83 (by decide) ?_
      refine g_aload_n (pc := 84) hX d_Mo_loop_84 rfl 0 rfl ?_
      refine g_iconst (pc := 85) (v := 0) hX d_Mo_loop_85 (by decide) ?_
      refine g_callV_I (pc := 86) hX hR f3 cf9 rfl lk_Mo_286 mf_Mo_expression (c_Mo_expression _ _ _ _ h) rfl rfl rfl ⟨by decide, by decide⟩ (cat_sum _ (Nat.le_of_ble_eq_true rfl)) d_Mo_loop_86 (fun r21 A20 h => ?_)
      refine g_callV_V (pc := 89) hX hR f3 cf9 rfl lk_Mo_290 mf_Mo_setExpr (c_Mo_setExpr _ _ _ _ _ h) rfl rfl rfl ⟨by decide, by decide⟩ (cat_sum _ (Nat.le_of_ble_eq_true rfl)) d_Mo_loop_89 (fun A22 h => ?_)
      exact g_vret hX hQ h d_Mo_loop_92
    · have h := h.2 q
      exact g_vret hX hQ h d_Mo_loop_66
def wp_Mo_numbers_c39 (J11 : Nat → Int32 → Mem → Prop) (K : Mem → Prop) (x0 : Nat) (x1 : Int32) (s0 : Int32) (s1 : Nat) (A : Mem) : Prop := kd s1 = 9 ∧ wp_Mo_make s1 s0 A (fun (A8 : Mem) => kd x0 = 9 ∧ wp_Mo_numeral x0 A8 (fun (A10 : Mem) => (((x1 + 1) = 6 → wp_Mo_setArg x0 0 (x1 + 1) A10 (fun (A12 : Mem) => K A12)) ∧ (¬ (x1 + 1) = 6 → wp_Mo_take x0 44 A10 (fun (r14 : Bool) (A13 : Mem) => ((r14 = true → J11 x0 (x1 + 1) A13) ∧ (r14 = false → wp_Mo_setArg x0 0 (x1 + 1) A13 (fun (A15 : Mem) => K A15))))))))
def wp_Mo_numbers_c11 (K : Mem → Prop) : Nat → Nat → Int32 → Mem → Prop
  | 0, _, _, _ => False
  | n + 1, x0, x1, A => kd x0 = 9 ∧ ((¬ (gI A x0 7) = 0 → wp_Mo_setArg x0 0 x1 A (fun (A4 : Mem) => K A4)) ∧ ((gI A x0 7) = 0 → ((6 ≤ x1 → wp_Mo_setArg x0 0 x1 A (fun (A5 : Mem) => K A5)) ∧ (¬ 6 ≤ x1 → wp_Mo_take x0 45 A (fun (r7 : Bool) (A6 : Mem) => ((r7 = false → wp_Mo_numbers_c39 (wp_Mo_numbers_c11 K n) K x0 x1 0 x0 A6) ∧ (r7 = true → wp_Mo_numbers_c39 (wp_Mo_numbers_c11 K n) K x0 x1 1 x0 A6)))))))
def wp_Mo_numbers (o : Nat) (A : Mem) (K : Mem → Prop) : Prop := kd o = 9 ∧ wp_Mo_setExpr o 0 (gI A o 6) A (fun (A2 : Mem) => (∃ n9 : Nat, wp_Mo_numbers_c11 K n9 o 0 A2))
set_option maxRecDepth 100000 in
set_option maxHeartbeats 4000000 in
theorem k_Mo_numbers_c39 {X : CXT} {E : EVT} {K : Mem → Prop} {J11 : Nat → Int32 → Mem → Prop} (hX : Gd X E "BasicMachineModel" prog_14_method_35_code) (hR : Rm X 3 64) (hN : xnL X = 2) (hQ : QV X E K) (hJ11 : ∀ (x0 : Nat) (x1 : Int32) (A : Mem), J11 x0 x1 A → G X E A 11 [(0, cr E x0), (1, .int (x1))] []) (x0 : Nat) (x1 : Int32) (s0 : Int32) (s1 : Nat) (A : Mem) (h : wp_Mo_numbers_c39 J11 K x0 x1 s0 s1 A) : G X E A 39 [(0, cr E x0), (1, .int (x1))] [.int (s0), cr E s1] := by
  unfold wp_Mo_numbers_c39 at h
  obtain ⟨f9, h⟩ := h
  refine g_callV_V (pc := 39) hX hR f9 cf9 rfl lk_Mo_244 mf_Mo_make (c_Mo_make _ _ _ _ h) rfl rfl rfl ⟨by decide, by decide⟩ (cat_sum _ (Nat.le_of_ble_eq_true rfl)) d_Mo_numbers_39 (fun A8 h => ?_)
  refine g_aload_n (pc := 42) hX d_Mo_numbers_42 rfl 0 rfl ?_
  obtain ⟨f11, h⟩ := h
  refine g_callV_V (pc := 43) hX hR f11 cf9 rfl lk_Mo_254 mf_Mo_numeral (c_Mo_numeral _ _ _ h) rfl rfl rfl ⟨by decide, by decide⟩ (cat_sum _ (Nat.le_of_ble_eq_true rfl)) d_Mo_numbers_43 (fun A10 h => ?_)
  refine g_iinc (pc := 46) (v := (x1 + 1)) (lv0 := [(0, cr E x0)]) hX d_Mo_numbers_46 1 rfl rfl (by rw [hN]; decide) (g_st1b (ks := [0]) rfl (cr_cat _ _) rfl rfl) ?_
  refine g_iload_n (pc := 49) hX d_Mo_numbers_49 rfl 0 rfl ?_
  refine g_bipush (pc := 50) (v := 6) hX d_Mo_numbers_50 (by decide) ?_
  refine g_icmp_eq (pc := 52) (tgt := 67) hX d_Mo_numbers_52 (by decide) (fun q => ?_) (fun q => ?_)
  · have h := h.1 q
    refine g_aload_n (pc := 67) hX d_Mo_numbers_67 rfl 1 rfl ?_
    refine g_iconst (pc := 68) (v := 0) hX d_Mo_numbers_68 (by decide) ?_
    refine g_iload_n (pc := 69) hX d_Mo_numbers_69 rfl 0 rfl ?_
    refine g_callV_V (pc := 70) hX hR f11 cf9 rfl lk_Mo_279 mf_Mo_setArg (c_Mo_setArg _ _ _ _ _ h) rfl rfl rfl ⟨by decide, by decide⟩ (cat_sum _ (Nat.le_of_ble_eq_true rfl)) d_Mo_numbers_70 (fun A12 h => ?_)
    exact g_vret hX hQ h d_Mo_numbers_73
  · have h := h.2 q
    refine g_aload_n (pc := 55) hX d_Mo_numbers_55 rfl 1 rfl ?_
    refine g_bipush (pc := 56) (v := 44) hX d_Mo_numbers_56 (by decide) ?_
    refine g_callV_Z (pc := 58) hX hR f11 cf9 rfl lk_Mo_160 mf_Mo_take (c_Mo_take _ _ _ _ h) rfl rfl rfl ⟨by decide, by decide⟩ (cat_sum _ (Nat.le_of_ble_eq_true rfl)) d_Mo_numbers_58 (fun r14 A13 h => ?_)
    refine g_ifB_ne (pc := 61) (tgt := 11) hX d_Mo_numbers_61 (by decide) (fun q => ?_) (fun q => ?_)
    · have h := h.1 q
      refine g_sub [1, 0] rfl ?_
      exact hJ11 _ _ _ h
    · have h := h.2 q
      refine g_goto (pc := 64) (tgt := 67) hX d_Mo_numbers_64 (by decide) ?_
      refine g_aload_n (pc := 67) hX d_Mo_numbers_67 rfl 1 rfl ?_
      refine g_iconst (pc := 68) (v := 0) hX d_Mo_numbers_68 (by decide) ?_
      refine g_iload_n (pc := 69) hX d_Mo_numbers_69 rfl 0 rfl ?_
      refine g_callV_V (pc := 70) hX hR f11 cf9 rfl lk_Mo_279 mf_Mo_setArg (c_Mo_setArg _ _ _ _ _ h) rfl rfl rfl ⟨by decide, by decide⟩ (cat_sum _ (Nat.le_of_ble_eq_true rfl)) d_Mo_numbers_70 (fun A15 h => ?_)
      exact g_vret hX hQ h d_Mo_numbers_73
set_option maxRecDepth 100000 in
set_option maxHeartbeats 4000000 in
theorem k_Mo_numbers_c11 {X : CXT} {E : EVT} {K : Mem → Prop} (hX : Gd X E "BasicMachineModel" prog_14_method_35_code) (hR : Rm X 3 64) (hN : xnL X = 2) (hQ : QV X E K) : ∀ (n : Nat) (x0 : Nat) (x1 : Int32) (A : Mem), wp_Mo_numbers_c11 K n x0 x1 A → G X E A 11 [(0, cr E x0), (1, .int (x1))] [] := by
  intro n
  induction n with
  | zero => intro x0 x1 A h; exact h.elim
  | succ n ih =>
    intro x0 x1 A h
    rw [wp_Mo_numbers_c11] at h
    refine g_aload_n (pc := 11) hX d_Mo_numbers_11 rfl 0 rfl ?_
    obtain ⟨f3, h⟩ := h
    refine g_getI (pc := 12) hX fl_Mo_31 rfl f3 d_Mo_numbers_12 ?_
    refine g_if_ne (pc := 15) (tgt := 67) hX d_Mo_numbers_15 (by decide) (fun q => ?_) (fun q => ?_)
    · have h := h.1 q
      refine g_aload_n (pc := 67) hX d_Mo_numbers_67 rfl 0 rfl ?_
      refine g_iconst (pc := 68) (v := 0) hX d_Mo_numbers_68 (by decide) ?_
      refine g_iload_n (pc := 69) hX d_Mo_numbers_69 rfl 1 rfl ?_
      refine g_callV_V (pc := 70) hX hR f3 cf9 rfl lk_Mo_279 mf_Mo_setArg (c_Mo_setArg _ _ _ _ _ h) rfl rfl rfl ⟨by decide, by decide⟩ (cat_sum _ (Nat.le_of_ble_eq_true rfl)) d_Mo_numbers_70 (fun A4 h => ?_)
      exact g_vret hX hQ h d_Mo_numbers_73
    · have h := h.2 q
      refine g_iload_n (pc := 18) hX d_Mo_numbers_18 rfl 1 rfl ?_
      refine g_bipush (pc := 19) (v := 6) hX d_Mo_numbers_19 (by decide) ?_
      refine g_icmp_ge (pc := 21) (tgt := 67) hX d_Mo_numbers_21 (by decide) (fun q => ?_) (fun q => ?_)
      · have h := h.1 q
        refine g_aload_n (pc := 67) hX d_Mo_numbers_67 rfl 0 rfl ?_
        refine g_iconst (pc := 68) (v := 0) hX d_Mo_numbers_68 (by decide) ?_
        refine g_iload_n (pc := 69) hX d_Mo_numbers_69 rfl 1 rfl ?_
        refine g_callV_V (pc := 70) hX hR f3 cf9 rfl lk_Mo_279 mf_Mo_setArg (c_Mo_setArg _ _ _ _ _ h) rfl rfl rfl ⟨by decide, by decide⟩ (cat_sum _ (Nat.le_of_ble_eq_true rfl)) d_Mo_numbers_70 (fun A5 h => ?_)
        exact g_vret hX hQ h d_Mo_numbers_73
      · have h := h.2 q
        refine g_aload_n (pc := 24) hX d_Mo_numbers_24 rfl 0 rfl ?_
        refine g_aload_n (pc := 25) hX d_Mo_numbers_25 rfl 0 rfl ?_
        refine g_bipush (pc := 26) (v := 45) hX d_Mo_numbers_26 (by decide) ?_
        refine g_callV_Z (pc := 28) hX hR f3 cf9 rfl lk_Mo_160 mf_Mo_take (c_Mo_take _ _ _ _ h) rfl rfl rfl ⟨by decide, by decide⟩ (cat_sum _ (Nat.le_of_ble_eq_true rfl)) d_Mo_numbers_28 (fun r7 A6 h => ?_)
        refine g_ifB_eq (pc := 31) (tgt := 38) hX d_Mo_numbers_31 (by decide) (fun q => ?_) (fun q => ?_)
        · have h := h.1 q
          refine g_iconst (pc := 38) (v := 0) hX d_Mo_numbers_38 (by decide) ?_
          refine g_sub [0, 1] rfl ?_
          exact k_Mo_numbers_c39 hX hR hN hQ ih _ _ _ _ _ h
        · have h := h.2 q
          refine g_iconst (pc := 34) (v := 1) hX d_Mo_numbers_34 (by decide) ?_
          refine g_goto (pc := 35) (tgt := 39) hX d_Mo_numbers_35 (by decide) ?_
          refine g_sub [0, 1] rfl ?_
          exact k_Mo_numbers_c39 hX hR hN hQ ih _ _ _ _ _ h
set_option maxRecDepth 100000 in
set_option maxHeartbeats 4000000 in
theorem c_Mo_numbers (o : Nat) (A : Mem) (K : Mem → Prop) (h : wp_Mo_numbers o A K) : CtV y_Mo_numbers prog_14_method_35_code 2 3 64 (fun E => [cr E o]) A K := by
  refine ctV_of "BasicMachineModel" (by decide) rfl (fun E => [(0, cr E o)]) (fun E => by simp [lg_sl, cr_cat, ca_i, ca_l, ca_d]) (fun E => by simp [lv_args, cr_cat, ca_i, ca_l, ca_d]) (fun X E hX hR hN hQ => ?_)
  unfold wp_Mo_numbers at h
  refine g_iconst (pc := 0) (v := 0) hX d_Mo_numbers_0 (by decide) ?_
  refine g_istore_n (pc := 1) (lv0 := [(0, cr E o)]) hX d_Mo_numbers_1 rfl (by rw [hN]; decide) (g_st1b (ks := [0]) rfl (cr_cat _ _) rfl rfl) ?_
  refine g_aload_n (pc := 2) hX d_Mo_numbers_2 rfl 1 rfl ?_
  refine g_iconst (pc := 3) (v := 0) hX d_Mo_numbers_3 (by decide) ?_
  refine g_aload_n (pc := 4) hX d_Mo_numbers_4 rfl 1 rfl ?_
  obtain ⟨f1, h⟩ := h
  refine g_getI (pc := 5) hX fl_Mo_28 rfl f1 d_Mo_numbers_5 ?_
  refine g_callV_V (pc := 8) hX hR f1 cf9 rfl lk_Mo_290 mf_Mo_setExpr (c_Mo_setExpr _ _ _ _ _ h) rfl rfl rfl ⟨by decide, by decide⟩ (cat_sum _ (Nat.le_of_ble_eq_true rfl)) d_Mo_numbers_8 (fun A2 h => ?_)
  refine g_sub [1, 0] rfl ?_
  obtain ⟨n9, h⟩ := h
  exact k_Mo_numbers_c11 hX hR hN hQ n9 _ _ _ h
def wp_Mo_oneToSix (o : Nat) (A : Mem) (K : Int32 → Mem → Prop) : Prop := kd o = 9 ∧ wp_Mo_look o A (fun (r2 : Int32) (A1 : Mem) => ((¬ (gI A1 o 7) = 0 → K 0 (sI A1 o 7 1)) ∧ ((gI A1 o 7) = 0 → ((r2 < 49 → K 0 (sI A1 o 7 1)) ∧ (¬ r2 < 49 → ((r2 ≤ 54 → K (r2 - 48) (sI A1 o 4 ((gI A1 o 4) + 1))) ∧ (¬ r2 ≤ 54 → K 0 (sI A1 o 7 1))))))))
set_option maxRecDepth 100000 in
set_option maxHeartbeats 4000000 in
theorem c_Mo_oneToSix (o : Nat) (A : Mem) (K : Int32 → Mem → Prop) (h : wp_Mo_oneToSix o A K) : CtI y_Mo_oneToSix prog_14_method_36_code 2 1 20 (fun E => [cr E o]) A K := by
  refine ctI_of "BasicMachineModel" (by decide) rfl (fun E => [(0, cr E o)]) (fun E => by simp [lg_sl, cr_cat, ca_i, ca_l, ca_d]) (fun E => by simp [lv_args, cr_cat, ca_i, ca_l, ca_d]) (fun X E hX hR hN hQ => ?_)
  unfold wp_Mo_oneToSix at h
  refine g_aload_n (pc := 0) hX d_Mo_oneToSix_0 rfl 0 rfl ?_
  obtain ⟨f3, h⟩ := h
  refine g_callV_I (pc := 1) hX hR f3 cf9 rfl lk_Mo_156 mf_Mo_look (c_Mo_look _ _ _ h) rfl rfl rfl ⟨by decide, by decide⟩ (cat_sum _ (Nat.le_of_ble_eq_true rfl)) d_Mo_oneToSix_1 (fun r2 A1 h => ?_)
  refine g_istore_n (pc := 4) (lv0 := [(0, cr E o)]) hX d_Mo_oneToSix_4 rfl (by rw [hN]; decide) (g_st1b (ks := [0]) rfl (cr_cat _ _) rfl rfl) ?_
  refine g_aload_n (pc := 5) hX d_Mo_oneToSix_5 rfl 1 rfl ?_
  refine g_getI (pc := 6) hX fl_Mo_31 rfl f3 d_Mo_oneToSix_6 ?_
  refine g_if_ne (pc := 9) (tgt := 24) hX d_Mo_oneToSix_9 (by decide) (fun q => ?_) (fun q => ?_)
  · have h := h.1 q
    refine g_aload_n (pc := 24) hX d_Mo_oneToSix_24 rfl 1 rfl ?_
    refine g_iconst (pc := 25) (v := 1) hX d_Mo_oneToSix_25 (by decide) ?_
    refine g_putZ (pc := 26) hX (Or.inr rfl) fl_Mo_31 rfl rfl rfl f3 d_Mo_oneToSix_26 ?_
    refine g_iconst (pc := 29) (v := 0) hX d_Mo_oneToSix_29 (by decide) ?_
    exact g_iret hX hQ h d_Mo_oneToSix_30
  · have h := h.2 q
    refine g_iload_n (pc := 12) hX d_Mo_oneToSix_12 rfl 0 rfl ?_
    refine g_bipush (pc := 13) (v := 49) hX d_Mo_oneToSix_13 (by decide) ?_
    refine g_icmp_lt (pc := 15) (tgt := 24) hX d_Mo_oneToSix_15 (by decide) (fun q => ?_) (fun q => ?_)
    · have h := h.1 q
      refine g_aload_n (pc := 24) hX d_Mo_oneToSix_24 rfl 1 rfl ?_
      refine g_iconst (pc := 25) (v := 1) hX d_Mo_oneToSix_25 (by decide) ?_
      refine g_putZ (pc := 26) hX (Or.inr rfl) fl_Mo_31 rfl rfl rfl f3 d_Mo_oneToSix_26 ?_
      refine g_iconst (pc := 29) (v := 0) hX d_Mo_oneToSix_29 (by decide) ?_
      exact g_iret hX hQ h d_Mo_oneToSix_30
    · have h := h.2 q
      refine g_iload_n (pc := 18) hX d_Mo_oneToSix_18 rfl 0 rfl ?_
      refine g_bipush (pc := 19) (v := 54) hX d_Mo_oneToSix_19 (by decide) ?_
      refine g_icmp_le (pc := 21) (tgt := 31) hX d_Mo_oneToSix_21 (by decide) (fun q => ?_) (fun q => ?_)
      · have h := h.1 q
        refine g_aload_n (pc := 31) hX d_Mo_oneToSix_31 rfl 1 rfl ?_
        refine g_dup (pc := 32) hX d_Mo_oneToSix_32 (cr_cat _ _) ?_
        refine g_getI (pc := 33) hX fl_Mo_22 rfl f3 d_Mo_oneToSix_33 ?_
        refine g_iconst (pc := 36) (v := 1) hX d_Mo_oneToSix_36 (by decide) ?_
        refine g_iadd (pc := 37) hX d_Mo_oneToSix_37 ?_
        refine g_putI (pc := 38) hX fl_Mo_22 rfl rfl rfl f3 d_Mo_oneToSix_38 ?_
        refine g_iload_n (pc := 41) hX d_Mo_oneToSix_41 rfl 0 rfl ?_
        refine g_bipush (pc := 42) (v := 48) hX d_Mo_oneToSix_42 (by decide) ?_
        refine g_isub (pc := 44) hX d_Mo_oneToSix_44 ?_
        exact g_iret hX hQ h d_Mo_oneToSix_45
      · have h := h.2 q
        refine g_aload_n (pc := 24) hX d_Mo_oneToSix_24 rfl 1 rfl ?_
        refine g_iconst (pc := 25) (v := 1) hX d_Mo_oneToSix_25 (by decide) ?_
        refine g_putZ (pc := 26) hX (Or.inr rfl) fl_Mo_31 rfl rfl rfl f3 d_Mo_oneToSix_26 ?_
        refine g_iconst (pc := 29) (v := 0) hX d_Mo_oneToSix_29 (by decide) ?_
        exact g_iret hX hQ h d_Mo_oneToSix_30
def wp_Mo_dim (o : Nat) (A : Mem) (K : Mem → Prop) : Prop := kd o = 9 ∧ wp_Mo_matrix o A (fun (r2 : Int32) (A1 : Mem) => wp_Mo_setArg o 0 r2 A1 (fun (A4 : Mem) => wp_Mo_need o 40 A4 (fun (A5 : Mem) => wp_Mo_oneToSix o A5 (fun (r7 : Int32) (A6 : Mem) => wp_Mo_setArg o 1 r7 A6 (fun (A8 : Mem) => wp_Mo_need o 44 A8 (fun (A9 : Mem) => wp_Mo_oneToSix o A9 (fun (r11 : Int32) (A10 : Mem) => wp_Mo_setArg o 2 r11 A10 (fun (A12 : Mem) => wp_Mo_need o 41 A12 (fun (A13 : Mem) => K A13)))))))))
set_option maxRecDepth 100000 in
set_option maxHeartbeats 4000000 in
theorem c_Mo_dim (o : Nat) (A : Mem) (K : Mem → Prop) (h : wp_Mo_dim o A K) : CtV y_Mo_dim prog_14_method_37_code 1 3 62 (fun E => [cr E o]) A K := by
  refine ctV_of "BasicMachineModel" (by decide) rfl (fun E => [(0, cr E o)]) (fun E => by simp [lg_sl, cr_cat, ca_i, ca_l, ca_d]) (fun E => by simp [lv_args, cr_cat, ca_i, ca_l, ca_d]) (fun X E hX hR hN hQ => ?_)
  unfold wp_Mo_dim at h
  refine g_aload_n (pc := 0) hX d_Mo_dim_0 rfl 0 rfl ?_
  refine g_iconst (pc := 1) (v := 0) hX d_Mo_dim_1 (by decide) ?_
  refine g_aload_n (pc := 2) hX d_Mo_dim_2 rfl 0 rfl ?_
  obtain ⟨f3, h⟩ := h
  refine g_callV_I (pc := 3) hX hR f3 cf9 rfl lk_Mo_283 mf_Mo_matrix (c_Mo_matrix _ _ _ h) rfl rfl rfl ⟨by decide, by decide⟩ (cat_sum _ (Nat.le_of_ble_eq_true rfl)) d_Mo_dim_3 (fun r2 A1 h => ?_)
  refine g_callV_V (pc := 6) hX hR f3 cf9 rfl lk_Mo_279 mf_Mo_setArg (c_Mo_setArg _ _ _ _ _ h) rfl rfl rfl ⟨by decide, by decide⟩ (cat_sum _ (Nat.le_of_ble_eq_true rfl)) d_Mo_dim_6 (fun A4 h => ?_)
  refine g_aload_n (pc := 9) hX d_Mo_dim_9 rfl 0 rfl ?_
  refine g_bipush (pc := 10) (v := 40) hX d_Mo_dim_10 (by decide) ?_
  refine g_callV_V (pc := 12) hX hR f3 cf9 rfl lk_Mo_248 mf_Mo_need (c_Mo_need _ _ _ _ h) rfl rfl rfl ⟨by decide, by decide⟩ (cat_sum _ (Nat.le_of_ble_eq_true rfl)) d_Mo_dim_12 (fun A5 h => ?_)
  refine g_aload_n (pc := 15) hX d_Mo_dim_15 rfl 0 rfl ?_
  refine g_iconst (pc := 16) (v := 1) hX d_Mo_dim_16 (by decide) ?_
  refine g_aload_n (pc := 17) hX d_Mo_dim_17 rfl 0 rfl ?_
  refine g_callV_I (pc := 18) hX hR f3 cf9 rfl lk_Mo_299 mf_Mo_oneToSix (c_Mo_oneToSix _ _ _ h) rfl rfl rfl ⟨by decide, by decide⟩ (cat_sum _ (Nat.le_of_ble_eq_true rfl)) d_Mo_dim_18 (fun r7 A6 h => ?_)
  refine g_callV_V (pc := 21) hX hR f3 cf9 rfl lk_Mo_279 mf_Mo_setArg (c_Mo_setArg _ _ _ _ _ h) rfl rfl rfl ⟨by decide, by decide⟩ (cat_sum _ (Nat.le_of_ble_eq_true rfl)) d_Mo_dim_21 (fun A8 h => ?_)
  refine g_aload_n (pc := 24) hX d_Mo_dim_24 rfl 0 rfl ?_
  refine g_bipush (pc := 25) (v := 44) hX d_Mo_dim_25 (by decide) ?_
  refine g_callV_V (pc := 27) hX hR f3 cf9 rfl lk_Mo_248 mf_Mo_need (c_Mo_need _ _ _ _ h) rfl rfl rfl ⟨by decide, by decide⟩ (cat_sum _ (Nat.le_of_ble_eq_true rfl)) d_Mo_dim_27 (fun A9 h => ?_)
  refine g_aload_n (pc := 30) hX d_Mo_dim_30 rfl 0 rfl ?_
  refine g_iconst (pc := 31) (v := 2) hX d_Mo_dim_31 (by decide) ?_
  refine g_aload_n (pc := 32) hX d_Mo_dim_32 rfl 0 rfl ?_
  refine g_callV_I (pc := 33) hX hR f3 cf9 rfl lk_Mo_299 mf_Mo_oneToSix (c_Mo_oneToSix _ _ _ h) rfl rfl rfl ⟨by decide, by decide⟩ (cat_sum _ (Nat.le_of_ble_eq_true rfl)) d_Mo_dim_33 (fun r11 A10 h => ?_)
  refine g_callV_V (pc := 36) hX hR f3 cf9 rfl lk_Mo_279 mf_Mo_setArg (c_Mo_setArg _ _ _ _ _ h) rfl rfl rfl ⟨by decide, by decide⟩ (cat_sum _ (Nat.le_of_ble_eq_true rfl)) d_Mo_dim_36 (fun A12 h => ?_)
  refine g_aload_n (pc := 39) hX d_Mo_dim_39 rfl 0 rfl ?_
  refine g_bipush (pc := 40) (v := 41) hX d_Mo_dim_40 (by decide) ?_
  refine g_callV_V (pc := 42) hX hR f3 cf9 rfl lk_Mo_248 mf_Mo_need (c_Mo_need _ _ _ _ h) rfl rfl rfl ⟨by decide, by decide⟩ (cat_sum _ (Nat.le_of_ble_eq_true rfl)) d_Mo_dim_42 (fun A13 h => ?_)
  exact g_vret hX hQ h d_Mo_dim_45
def wp_Mo_def_c51 (K : Mem → Prop) (x0 : Nat) (x1 : Int32) (A : Mem) : Prop := kd x0 = 9 ∧ wp_Mo_setArg x0 0 (x1 - 65) A (fun (A6 : Mem) => wp_Mo_need x0 40 A6 (fun (A8 : Mem) => wp_Mo_variable0 x0 A8 (fun (r10 : Int32) (A9 : Mem) => wp_Mo_setArg x0 1 r10 A9 (fun (A11 : Mem) => wp_Mo_need x0 41 A11 (fun (A12 : Mem) => wp_Mo_need x0 61 A12 (fun (A13 : Mem) => wp_Mo_expression x0 0 A13 (fun (r15 : Int32) (A14 : Mem) => wp_Mo_setExpr x0 0 r15 A14 (fun (A16 : Mem) => K A16))))))))
def wp_Mo_def (o : Nat) (A : Mem) (K : Mem → Prop) : Prop := kd o = 9 ∧ wp_Mo_takeWord o 27 27 A (fun (r2 : Int32) (A1 : Mem) => wp_Mo_look o A1 (fun (r5 : Int32) (A4 : Mem) => ((r5 < 65 → wp_Mo_def_c51 K o r5 (sI A4 o 7 1)) ∧ (¬ r5 < 65 → ((r5 ≤ 67 → ((¬ (gI A4 o 7) = 0 → wp_Mo_def_c51 K o r5 A4) ∧ ((gI A4 o 7) = 0 → wp_Mo_def_c51 K o r5 (sI A4 o 4 ((gI A4 o 4) + 1))))) ∧ (¬ r5 ≤ 67 → wp_Mo_def_c51 K o r5 (sI A4 o 7 1)))))))
set_option maxRecDepth 100000 in
set_option maxHeartbeats 4000000 in
theorem k_Mo_def_c51 {X : CXT} {E : EVT} {K : Mem → Prop} (hX : Gd X E "BasicMachineModel" prog_14_method_38_code) (hR : Rm X 5 131) (hN : xnL X = 2) (hQ : QV X E K) (x0 : Nat) (x1 : Int32) (A : Mem) (h : wp_Mo_def_c51 K x0 x1 A) : G X E A 51 [(0, cr E x0), (1, .int (x1))] [] := by
  unfold wp_Mo_def_c51 at h
  refine g_aload_n (pc := 51) hX d_Mo_def_51 rfl 0 rfl ?_
  refine g_iconst (pc := 52) (v := 0) hX d_Mo_def_52 (by decide) ?_
  refine g_iload_n (pc := 53) hX d_Mo_def_53 rfl 1 rfl ?_
  refine g_bipush (pc := 54) (v := 65) hX d_Mo_def_54 (by decide) ?_
  refine g_isub (pc := 56) hX d_Mo_def_56 ?_
  obtain ⟨f7, h⟩ := h
  refine g_callV_V (pc := 57) hX hR f7 cf9 rfl lk_Mo_279 mf_Mo_setArg (c_Mo_setArg _ _ _ _ _ h) rfl rfl rfl ⟨by decide, by decide⟩ (cat_sum _ (Nat.le_of_ble_eq_true rfl)) d_Mo_def_57 (fun A6 h => ?_)
  refine g_aload_n (pc := 60) hX d_Mo_def_60 rfl 0 rfl ?_
  refine g_bipush (pc := 61) (v := 40) hX d_Mo_def_61 (by decide) ?_
  refine g_callV_V (pc := 63) hX hR f7 cf9 rfl lk_Mo_248 mf_Mo_need (c_Mo_need _ _ _ _ h) rfl rfl rfl ⟨by decide, by decide⟩ (cat_sum _ (Nat.le_of_ble_eq_true rfl)) d_Mo_def_63 (fun A8 h => ?_)
  refine g_aload_n (pc := 66) hX d_Mo_def_66 rfl 0 rfl ?_
  refine g_iconst (pc := 67) (v := 1) hX d_Mo_def_67 (by decide) ?_
  refine g_aload_n (pc := 68) hX d_Mo_def_68 rfl 0 rfl ?_
  refine g_callV_I (pc := 69) hX hR f7 cf9 rfl lk_Mo_261 mf_Mo_variable0 (c_Mo_variable0 _ _ _ h) rfl rfl rfl ⟨by decide, by decide⟩ (cat_sum _ (Nat.le_of_ble_eq_true rfl)) d_Mo_def_69 (fun r10 A9 h => ?_)
  refine g_callV_V (pc := 72) hX hR f7 cf9 rfl lk_Mo_279 mf_Mo_setArg (c_Mo_setArg _ _ _ _ _ h) rfl rfl rfl ⟨by decide, by decide⟩ (cat_sum _ (Nat.le_of_ble_eq_true rfl)) d_Mo_def_72 (fun A11 h => ?_)
  refine g_aload_n (pc := 75) hX d_Mo_def_75 rfl 0 rfl ?_
  refine g_bipush (pc := 76) (v := 41) hX d_Mo_def_76 (by decide) ?_
  refine g_callV_V (pc := 78) hX hR f7 cf9 rfl lk_Mo_248 mf_Mo_need (c_Mo_need _ _ _ _ h) rfl rfl rfl ⟨by decide, by decide⟩ (cat_sum _ (Nat.le_of_ble_eq_true rfl)) d_Mo_def_78 (fun A12 h => ?_)
  refine g_aload_n (pc := 81) hX d_Mo_def_81 rfl 0 rfl ?_
  refine g_bipush (pc := 82) (v := 61) hX d_Mo_def_82 (by decide) ?_
  refine g_callV_V (pc := 84) hX hR f7 cf9 rfl lk_Mo_248 mf_Mo_need (c_Mo_need _ _ _ _ h) rfl rfl rfl ⟨by decide, by decide⟩ (cat_sum _ (Nat.le_of_ble_eq_true rfl)) d_Mo_def_84 (fun A13 h => ?_)
  refine g_aload_n (pc := 87) hX d_Mo_def_87 rfl 0 rfl ?_
  refine g_iconst (pc := 88) (v := 0) hX d_Mo_def_88 (by decide) ?_
  refine g_aload_n (pc := 89) hX d_Mo_def_89 rfl 0 rfl ?_
  refine g_iconst (pc := 90) (v := 0) hX d_Mo_def_90 (by decide) ?_
  refine g_callV_I (pc := 91) hX hR f7 cf9 rfl lk_Mo_286 mf_Mo_expression (c_Mo_expression _ _ _ _ h) rfl rfl rfl ⟨by decide, by decide⟩ (cat_sum _ (Nat.le_of_ble_eq_true rfl)) d_Mo_def_91 (fun r15 A14 h => ?_)
  refine g_callV_V (pc := 94) hX hR f7 cf9 rfl lk_Mo_290 mf_Mo_setExpr (c_Mo_setExpr _ _ _ _ _ h) rfl rfl rfl ⟨by decide, by decide⟩ (cat_sum _ (Nat.le_of_ble_eq_true rfl)) d_Mo_def_94 (fun A16 h => ?_)
  exact g_vret hX hQ h d_Mo_def_97
set_option maxRecDepth 100000 in
set_option maxHeartbeats 4000000 in
theorem c_Mo_def (o : Nat) (A : Mem) (K : Mem → Prop) (h : wp_Mo_def o A K) : CtV y_Mo_def prog_14_method_38_code 2 5 131 (fun E => [cr E o]) A K := by
  refine ctV_of "BasicMachineModel" (by decide) rfl (fun E => [(0, cr E o)]) (fun E => by simp [lg_sl, cr_cat, ca_i, ca_l, ca_d]) (fun E => by simp [lv_args, cr_cat, ca_i, ca_l, ca_d]) (fun X E hX hR hN hQ => ?_)
  unfold wp_Mo_def at h
  refine g_aload_n (pc := 0) hX d_Mo_def_0 rfl 0 rfl ?_
  refine g_bipush (pc := 1) (v := 27) hX d_Mo_def_1 (by decide) ?_
  refine g_bipush (pc := 3) (v := 27) hX d_Mo_def_3 (by decide) ?_
  obtain ⟨f3, h⟩ := h
  refine g_callV_I (pc := 5) hX hR f3 cf9 rfl lk_Mo_257 mf_Mo_takeWord (c_Mo_takeWord _ _ _ _ _ h) rfl rfl rfl ⟨by decide, by decide⟩ (cat_sum _ (Nat.le_of_ble_eq_true rfl)) d_Mo_def_5 (fun r2 A1 h => ?_)
  refine g_pop (pc := 8) hX d_Mo_def_8 rfl ?_
  refine g_aload_n (pc := 9) hX d_Mo_def_9 rfl 0 rfl ?_
  refine g_callV_I (pc := 10) hX hR f3 cf9 rfl lk_Mo_156 mf_Mo_look (c_Mo_look _ _ _ h) rfl rfl rfl ⟨by decide, by decide⟩ (cat_sum _ (Nat.le_of_ble_eq_true rfl)) d_Mo_def_10 (fun r5 A4 h => ?_)
  refine g_istore_n (pc := 13) (lv0 := [(0, cr E o)]) hX d_Mo_def_13 rfl (by rw [hN]; decide) (g_st1b (ks := [0]) rfl (cr_cat _ _) rfl rfl) ?_
  refine g_iload_n (pc := 14) hX d_Mo_def_14 rfl 0 rfl ?_
  refine g_bipush (pc := 15) (v := 65) hX d_Mo_def_15 (by decide) ?_
  refine g_icmp_lt (pc := 17) (tgt := 26) hX d_Mo_def_17 (by decide) (fun q => ?_) (fun q => ?_)
  · have h := h.1 q
    refine g_aload_n (pc := 26) hX d_Mo_def_26 rfl 1 rfl ?_
    refine g_iconst (pc := 27) (v := 1) hX d_Mo_def_27 (by decide) ?_
    refine g_putZ (pc := 28) hX (Or.inr rfl) fl_Mo_31 rfl rfl rfl f3 d_Mo_def_28 ?_
    refine g_goto (pc := 31) (tgt := 51) hX d_Mo_def_31 (by decide) ?_
    refine g_sub [1, 0] rfl ?_
    exact k_Mo_def_c51 hX hR hN hQ _ _ _ h
  · have h := h.2 q
    refine g_iload_n (pc := 20) hX d_Mo_def_20 rfl 0 rfl ?_
    refine g_bipush (pc := 21) (v := 67) hX d_Mo_def_21 (by decide) ?_
    refine g_icmp_le (pc := 23) (tgt := 34) hX d_Mo_def_23 (by decide) (fun q => ?_) (fun q => ?_)
    · have h := h.1 q
      refine g_aload_n (pc := 34) hX d_Mo_def_34 rfl 1 rfl ?_
      refine g_getI (pc := 35) hX fl_Mo_31 rfl f3 d_Mo_def_35 ?_
      refine g_if_ne (pc := 38) (tgt := 51) hX d_Mo_def_38 (by decide) (fun q => ?_) (fun q => ?_)
      · have h := h.1 q
        refine g_sub [1, 0] rfl ?_
        exact k_Mo_def_c51 hX hR hN hQ _ _ _ h
      · have h := h.2 q
        refine g_aload_n (pc := 41) hX d_Mo_def_41 rfl 1 rfl ?_
        refine g_dup (pc := 42) hX d_Mo_def_42 (cr_cat _ _) ?_
        refine g_getI (pc := 43) hX fl_Mo_22 rfl f3 d_Mo_def_43 ?_
        refine g_iconst (pc := 46) (v := 1) hX d_Mo_def_46 (by decide) ?_
        refine g_iadd (pc := 47) hX d_Mo_def_47 ?_
        refine g_putI (pc := 48) hX fl_Mo_22 rfl rfl rfl f3 d_Mo_def_48 ?_
        refine g_sub [1, 0] rfl ?_
        exact k_Mo_def_c51 hX hR hN hQ _ _ _ h
    · have h := h.2 q
      refine g_aload_n (pc := 26) hX d_Mo_def_26 rfl 1 rfl ?_
      refine g_iconst (pc := 27) (v := 1) hX d_Mo_def_27 (by decide) ?_
      refine g_putZ (pc := 28) hX (Or.inr rfl) fl_Mo_31 rfl rfl rfl f3 d_Mo_def_28 ?_
      refine g_goto (pc := 31) (tgt := 51) hX d_Mo_def_31 (by decide) ?_
      refine g_sub [1, 0] rfl ?_
      exact k_Mo_def_c51 hX hR hN hQ _ _ _ h
def wp_Mo_mat_c138 (K : Mem → Prop) (x0 : Nat) (s0 : Int32) (s1 : Int32) (s2 : Nat) (A : Mem) : Prop := kd s2 = 9 ∧ wp_Mo_setArg s2 s1 s0 A (fun (A39 : Mem) => kd x0 = 9 ∧ kd (gR A39 x0 12) = 51 ∧ vp_in 193 (al (gR A39 x0 12)) ∧ (((gI A39 (gR A39 x0 12) (Int32.toNatClampNeg 193)) ≤ 5 → K A39) ∧ (¬ (gI A39 (gR A39 x0 12) (Int32.toNatClampNeg 193)) ≤ 5 → wp_Mo_matrix x0 A39 (fun (r45 : Int32) (A44 : Mem) => wp_Mo_setArg x0 3 r45 A44 (fun (A46 : Mem) => K A46)))))
def wp_Mo_mat (o : Nat) (A : Mem) (K : Mem → Prop) : Prop := kd o = 9 ∧ wp_Mo_matrix o A (fun (r2 : Int32) (A1 : Mem) => wp_Mo_setArg o 0 r2 A1 (fun (A4 : Mem) => wp_Mo_need o 61 A4 (fun (A5 : Mem) => wp_Mo_look o A5 (fun (r7 : Int32) (A6 : Mem) => (((gI A6 o 7) = 0 → ((¬ r7 = 40 → wp_Mo_isMatrix o r7 A6 (fun (r9 : Bool) (A8 : Mem) => ((r9 = false → wp_Mo_takeWord o 20 23 A8 (fun (r11 : Int32) (A10 : Mem) => wp_Mo_setArg o 1 (r11 - 20) A10 (fun (A12 : Mem) => kd (gR A12 o 12) = 51 ∧ vp_in 193 (al (gR A12 o 12)) ∧ (((gI A12 (gR A12 o 12) (Int32.toNatClampNeg 193)) = 3 → wp_Mo_need o 40 A12 (fun (A15 : Mem) => wp_Mo_matrix o A15 (fun (r17 : Int32) (A16 : Mem) => wp_Mo_setArg o 2 r17 A16 (fun (A18 : Mem) => wp_Mo_need o 41 A18 (fun (A19 : Mem) => K A19))))) ∧ (¬ (gI A12 (gR A12 o 12) (Int32.toNatClampNeg 193)) = 3 → K A12))))) ∧ (r9 = true → wp_Mo_matrix o A8 (fun (r21 : Int32) (A20 : Mem) => wp_Mo_setArg o 2 r21 A20 (fun (A22 : Mem) => wp_Mo_take o 43 A22 (fun (r24 : Bool) (A23 : Mem) => ((r24 = false → wp_Mo_take o 45 A23 (fun (r26 : Bool) (A25 : Mem) => ((r26 = false → wp_Mo_take o 42 A25 (fun (r28 : Bool) (A27 : Mem) => ((r28 = false → wp_Mo_mat_c138 K o 5 1 o A27) ∧ (r28 = true → wp_Mo_mat_c138 K o 8 1 o A27)))) ∧ (r26 = true → wp_Mo_mat_c138 K o 7 1 o A25)))) ∧ (r24 = true → wp_Mo_mat_c138 K o 6 1 o A23))))))))) ∧ (r7 = 40 → wp_Mo_bracket o A6 (fun (A29 : Mem) => wp_Mo_expression o 0 A29 (fun (r31 : Int32) (A30 : Mem) => wp_Mo_setExpr o 0 r31 A30 (fun (A32 : Mem) => wp_Mo_shut o A32 (fun (A33 : Mem) => wp_Mo_need o 42 A33 (fun (A34 : Mem) => wp_Mo_setArg o 1 4 A34 (fun (A35 : Mem) => wp_Mo_matrix o A35 (fun (r37 : Int32) (A36 : Mem) => wp_Mo_setArg o 2 r37 A36 (fun (A38 : Mem) => K A38))))))))))) ∧ (¬ (gI A6 o 7) = 0 → K A6))))))
set_option maxRecDepth 100000 in
set_option maxHeartbeats 4000000 in
theorem k_Mo_mat_c138 {X : CXT} {E : EVT} {K : Mem → Prop} (hX : Gd X E "BasicMachineModel" prog_14_method_39_code) (hR : Rm X 5 131) (hN : xnL X = 2) (hQ : QV X E K) (x0 : Nat) (s0 : Int32) (s1 : Int32) (s2 : Nat) (A : Mem) (h : wp_Mo_mat_c138 K x0 s0 s1 s2 A) : G X E A 138 [(0, cr E x0)] [.int (s0), .int (s1), cr E s2] := by
  unfold wp_Mo_mat_c138 at h
  obtain ⟨f40, h⟩ := h
  refine g_callV_V (pc := 138) hX hR f40 cf9 rfl lk_Mo_279 mf_Mo_setArg (c_Mo_setArg _ _ _ _ _ h) rfl rfl rfl ⟨by decide, by decide⟩ (cat_sum _ (Nat.le_of_ble_eq_true rfl)) d_Mo_mat_138 (fun A39 h => ?_)
  refine g_aload_n (pc := 141) hX d_Mo_mat_141 rfl 0 rfl ?_
  obtain ⟨f41, h⟩ := h
  refine g_getR (pc := 142) hX fl_Mo_49 rfl f41 d_Mo_mat_142 ?_
  refine g_sipush (pc := 145) (v := 193) hX d_Mo_mat_145 (by decide) ?_
  obtain ⟨f42, h⟩ := h
  obtain ⟨f43, h⟩ := h
  refine g_iaload (pc := 148) hX f42 f43 d_Mo_mat_148 ?_
  refine g_iconst (pc := 149) (v := 5) hX d_Mo_mat_149 (by decide) ?_
  refine g_icmp_le (pc := 150) (tgt := 215) hX d_Mo_mat_150 (by decide) (fun q => ?_) (fun q => ?_)
  · have h := h.1 q
    exact g_vret hX hQ h d_Mo_mat_215
  · have h := h.2 q
    refine g_aload_n (pc := 153) hX d_Mo_mat_153 rfl 0 rfl ?_
    refine g_iconst (pc := 154) (v := 3) hX d_Mo_mat_154 (by decide) ?_
    refine g_aload_n (pc := 155) hX d_Mo_mat_155 rfl 0 rfl ?_
    refine g_callV_I (pc := 156) hX hR f41 cf9 rfl lk_Mo_283 mf_Mo_matrix (c_Mo_matrix _ _ _ h) rfl rfl rfl ⟨by decide, by decide⟩ (cat_sum _ (Nat.le_of_ble_eq_true rfl)) d_Mo_mat_156 (fun r45 A44 h => ?_)
    refine g_callV_V (pc := 159) hX hR f41 cf9 rfl lk_Mo_279 mf_Mo_setArg (c_Mo_setArg _ _ _ _ _ h) rfl rfl rfl ⟨by decide, by decide⟩ (cat_sum _ (Nat.le_of_ble_eq_true rfl)) d_Mo_mat_159 (fun A46 h => ?_)
    refine g_goto (pc := 162) (tgt := 215) hX d_Mo_mat_162 (by decide) ?_
    exact g_vret hX hQ h d_Mo_mat_215
set_option maxRecDepth 100000 in
set_option maxHeartbeats 4000000 in
theorem c_Mo_mat (o : Nat) (A : Mem) (K : Mem → Prop) (h : wp_Mo_mat o A K) : CtV y_Mo_mat prog_14_method_39_code 2 5 131 (fun E => [cr E o]) A K := by
  refine ctV_of "BasicMachineModel" (by decide) rfl (fun E => [(0, cr E o)]) (fun E => by simp [lg_sl, cr_cat, ca_i, ca_l, ca_d]) (fun E => by simp [lv_args, cr_cat, ca_i, ca_l, ca_d]) (fun X E hX hR hN hQ => ?_)
  unfold wp_Mo_mat at h
  refine g_aload_n (pc := 0) hX d_Mo_mat_0 rfl 0 rfl ?_
  refine g_iconst (pc := 1) (v := 0) hX d_Mo_mat_1 (by decide) ?_
  refine g_aload_n (pc := 2) hX d_Mo_mat_2 rfl 0 rfl ?_
  obtain ⟨f3, h⟩ := h
  refine g_callV_I (pc := 3) hX hR f3 cf9 rfl lk_Mo_283 mf_Mo_matrix (c_Mo_matrix _ _ _ h) rfl rfl rfl ⟨by decide, by decide⟩ (cat_sum _ (Nat.le_of_ble_eq_true rfl)) d_Mo_mat_3 (fun r2 A1 h => ?_)
  refine g_callV_V (pc := 6) hX hR f3 cf9 rfl lk_Mo_279 mf_Mo_setArg (c_Mo_setArg _ _ _ _ _ h) rfl rfl rfl ⟨by decide, by decide⟩ (cat_sum _ (Nat.le_of_ble_eq_true rfl)) d_Mo_mat_6 (fun A4 h => ?_)
  refine g_aload_n (pc := 9) hX d_Mo_mat_9 rfl 0 rfl ?_
  refine g_bipush (pc := 10) (v := 61) hX d_Mo_mat_10 (by decide) ?_
  refine g_callV_V (pc := 12) hX hR f3 cf9 rfl lk_Mo_248 mf_Mo_need (c_Mo_need _ _ _ _ h) rfl rfl rfl ⟨by decide, by decide⟩ (cat_sum _ (Nat.le_of_ble_eq_true rfl)) d_Mo_mat_12 (fun A5 h => ?_)
  refine g_aload_n (pc := 15) hX d_Mo_mat_15 rfl 0 rfl ?_
  refine g_callV_I (pc := 16) hX hR f3 cf9 rfl lk_Mo_156 mf_Mo_look (c_Mo_look _ _ _ h) rfl rfl rfl ⟨by decide, by decide⟩ (cat_sum _ (Nat.le_of_ble_eq_true rfl)) d_Mo_mat_16 (fun r7 A6 h => ?_)
  refine g_istore_n (pc := 19) (lv0 := [(0, cr E o)]) hX d_Mo_mat_19 rfl (by rw [hN]; decide) (g_st1b (ks := [0]) rfl (cr_cat _ _) rfl rfl) ?_
  refine g_aload_n (pc := 20) hX d_Mo_mat_20 rfl 1 rfl ?_
  refine g_getI (pc := 21) hX fl_Mo_31 rfl f3 d_Mo_mat_21 ?_
  refine g_if_eq (pc := 24) (tgt := 28) hX d_Mo_mat_24 (by decide) (fun q => ?_) (fun q => ?_)
  · have h := h.1 q
    refine g_iload_n (pc := 28) hX d_Mo_mat_28 rfl 0 rfl ?_
    refine g_bipush (pc := 29) (v := 40) hX d_Mo_mat_29 (by decide) ?_
    refine g_icmp_ne (pc := 31) (tgt := 76) hX d_Mo_mat_31 (by decide) (fun q => ?_) (fun q => ?_)
    · have h := h.1 q
      refine g_aload_n (pc := 76) hX d_Mo_mat_76 rfl 1 rfl ?_
      refine g_iload_n (pc := 77) hX d_Mo_mat_77 rfl 0 rfl ?_
      refine g_callV_Z (pc := 78) hX hR f3 cf9 rfl lk_Mo_241 mf_Mo_isMatrix (c_Mo_isMatrix _ _ _ _ h) rfl rfl rfl ⟨by decide, by decide⟩ (cat_sum _ (Nat.le_of_ble_eq_true rfl)) d_Mo_mat_78 (fun r9 A8 h => ?_)
      refine g_ifB_eq (pc := 81) (tgt := 165) hX d_Mo_mat_81 (by decide) (fun q => ?_) (fun q => ?_)
      · have h := h.1 q
        refine g_aload_n (pc := 165) hX d_Mo_mat_165 rfl 1 rfl ?_
        refine g_iconst (pc := 166) (v := 1) hX d_Mo_mat_166 (by decide) ?_
        refine g_aload_n (pc := 167) hX d_Mo_mat_167 rfl 1 rfl ?_
        refine g_bipush (pc := 168) (v := 20) hX d_Mo_mat_168 (by decide) ?_
        refine g_bipush (pc := 170) (v := 23) hX d_Mo_mat_170 (by decide) ?_
        refine g_callV_I (pc := 172) hX hR f3 cf9 rfl lk_Mo_257 mf_Mo_takeWord (c_Mo_takeWord _ _ _ _ _ h) rfl rfl rfl ⟨by decide, by decide⟩ (cat_sum _ (Nat.le_of_ble_eq_true rfl)) d_Mo_mat_172 (fun r11 A10 h => ?_)
        refine g_bipush (pc := 175) (v := 20) hX d_Mo_mat_175 (by decide) ?_
        refine g_isub (pc := 177) hX d_Mo_mat_177 ?_
        refine g_callV_V (pc := 178) hX hR f3 cf9 rfl lk_Mo_279 mf_Mo_setArg (c_Mo_setArg _ _ _ _ _ h) rfl rfl rfl ⟨by decide, by decide⟩ (cat_sum _ (Nat.le_of_ble_eq_true rfl)) d_Mo_mat_178 (fun A12 h => ?_)
        refine g_aload_n (pc := 181) hX d_Mo_mat_181 rfl 1 rfl ?_
        refine g_getR (pc := 182) hX fl_Mo_49 rfl f3 d_Mo_mat_182 ?_
        refine g_sipush (pc := 185) (v := 193) hX d_Mo_mat_185 (by decide) ?_
        obtain ⟨f13, h⟩ := h
        obtain ⟨f14, h⟩ := h
        refine g_iaload (pc := 188) hX f13 f14 d_Mo_mat_188 ?_
        refine g_iconst (pc := 189) (v := 3) hX d_Mo_mat_189 (by decide) ?_
        refine g_icmp_eq (pc := 190) (tgt := 194) hX d_Mo_mat_190 (by decide) (fun q => ?_) (fun q => ?_)
        · have h := h.1 q
          refine g_aload_n (pc := 194) hX d_Mo_mat_194 rfl 1 rfl ?_
          refine g_bipush (pc := 195) (v := 40) hX d_Mo_mat_195 (by decide) ?_
          refine g_callV_V (pc := 197) hX hR f3 cf9 rfl lk_Mo_248 mf_Mo_need (c_Mo_need _ _ _ _ h) rfl rfl rfl ⟨by decide, by decide⟩ (cat_sum _ (Nat.le_of_ble_eq_true rfl)) d_Mo_mat_197 (fun A15 h => ?_)
          refine g_aload_n (pc := 200) hX d_Mo_mat_200 rfl 1 rfl ?_
          refine g_iconst (pc := 201) (v := 2) hX d_Mo_mat_201 (by decide) ?_
          refine g_aload_n (pc := 202) hX d_Mo_mat_202 rfl 1 rfl ?_
          refine g_callV_I (pc := 203) hX hR f3 cf9 rfl lk_Mo_283 mf_Mo_matrix (c_Mo_matrix _ _ _ h) rfl rfl rfl ⟨by decide, by decide⟩ (cat_sum _ (Nat.le_of_ble_eq_true rfl)) d_Mo_mat_203 (fun r17 A16 h => ?_)
          refine g_callV_V (pc := 206) hX hR f3 cf9 rfl lk_Mo_279 mf_Mo_setArg (c_Mo_setArg _ _ _ _ _ h) rfl rfl rfl ⟨by decide, by decide⟩ (cat_sum _ (Nat.le_of_ble_eq_true rfl)) d_Mo_mat_206 (fun A18 h => ?_)
          refine g_aload_n (pc := 209) hX d_Mo_mat_209 rfl 1 rfl ?_
          refine g_bipush (pc := 210) (v := 41) hX d_Mo_mat_210 (by decide) ?_
          refine g_callV_V (pc := 212) hX hR f3 cf9 rfl lk_Mo_248 mf_Mo_need (c_Mo_need _ _ _ _ h) rfl rfl rfl ⟨by decide, by decide⟩ (cat_sum _ (Nat.le_of_ble_eq_true rfl)) d_Mo_mat_212 (fun A19 h => ?_)
          exact g_vret hX hQ h d_Mo_mat_215
        · have h := h.2 q
          exact g_vret hX hQ h d_Mo_mat_193
      · have h := h.2 q
        refine g_aload_n (pc := 84) hX d_Mo_mat_84 rfl 1 rfl ?_
        refine g_iconst (pc := 85) (v := 2) hX d_Mo_mat_85 (by decide) ?_
        refine g_aload_n (pc := 86) hX d_Mo_mat_86 rfl 1 rfl ?_
        refine g_callV_I (pc := 87) hX hR f3 cf9 rfl lk_Mo_283 mf_Mo_matrix (c_Mo_matrix _ _ _ h) rfl rfl rfl ⟨by decide, by decide⟩ (cat_sum _ (Nat.le_of_ble_eq_true rfl)) d_Mo_mat_87 (fun r21 A20 h => ?_)
        refine g_callV_V (pc := 90) hX hR f3 cf9 rfl lk_Mo_279 mf_Mo_setArg (c_Mo_setArg _ _ _ _ _ h) rfl rfl rfl ⟨by decide, by decide⟩ (cat_sum _ (Nat.le_of_ble_eq_true rfl)) d_Mo_mat_90 (fun A22 h => ?_)
        refine g_aload_n (pc := 93) hX d_Mo_mat_93 rfl 1 rfl ?_
        refine g_iconst (pc := 94) (v := 1) hX d_Mo_mat_94 (by decide) ?_
        refine g_aload_n (pc := 95) hX d_Mo_mat_95 rfl 1 rfl ?_
        refine g_bipush (pc := 96) (v := 43) hX d_Mo_mat_96 (by decide) ?_
        refine g_callV_Z (pc := 98) hX hR f3 cf9 rfl lk_Mo_160 mf_Mo_take (c_Mo_take _ _ _ _ h) rfl rfl rfl ⟨by decide, by decide⟩ (cat_sum _ (Nat.le_of_ble_eq_true rfl)) d_Mo_mat_98 (fun r24 A23 h => ?_)
        refine g_ifB_eq (pc := 101) (tgt := 109) hX d_Mo_mat_101 (by decide) (fun q => ?_) (fun q => ?_)
        · have h := h.1 q
          refine g_aload_n (pc := 109) hX d_Mo_mat_109 rfl 1 rfl ?_
          refine g_bipush (pc := 110) (v := 45) hX d_Mo_mat_110 (by decide) ?_
          refine g_callV_Z (pc := 112) hX hR f3 cf9 rfl lk_Mo_160 mf_Mo_take (c_Mo_take _ _ _ _ h) rfl rfl rfl ⟨by decide, by decide⟩ (cat_sum _ (Nat.le_of_ble_eq_true rfl)) d_Mo_mat_112 (fun r26 A25 h => ?_)
          refine g_ifB_eq (pc := 115) (tgt := 123) hX d_Mo_mat_115 (by decide) (fun q => ?_) (fun q => ?_)
          · have h := h.1 q
            refine g_aload_n (pc := 123) hX d_Mo_mat_123 rfl 1 rfl ?_
            refine g_bipush (pc := 124) (v := 42) hX d_Mo_mat_124 (by decide) ?_
            refine g_callV_Z (pc := 126) hX hR f3 cf9 rfl lk_Mo_160 mf_Mo_take (c_Mo_take _ _ _ _ h) rfl rfl rfl ⟨by decide, by decide⟩ (cat_sum _ (Nat.le_of_ble_eq_true rfl)) d_Mo_mat_126 (fun r28 A27 h => ?_)
            refine g_ifB_eq (pc := 129) (tgt := 137) hX d_Mo_mat_129 (by decide) (fun q => ?_) (fun q => ?_)
            · have h := h.1 q
              refine g_iconst (pc := 137) (v := 5) hX d_Mo_mat_137 (by decide) ?_
              refine g_sub [1] rfl ?_
              exact k_Mo_mat_c138 hX hR hN hQ _ _ _ _ _ h
            · have h := h.2 q
              refine g_bipush (pc := 132) (v := 8) hX d_Mo_mat_132 (by decide) ?_
              refine g_goto (pc := 134) (tgt := 138) hX d_Mo_mat_134 (by decide) ?_
              refine g_sub [1] rfl ?_
              exact k_Mo_mat_c138 hX hR hN hQ _ _ _ _ _ h
          · have h := h.2 q
            refine g_bipush (pc := 118) (v := 7) hX d_Mo_mat_118 (by decide) ?_
            refine g_goto (pc := 120) (tgt := 138) hX d_Mo_mat_120 (by decide) ?_
            refine g_sub [1] rfl ?_
            exact k_Mo_mat_c138 hX hR hN hQ _ _ _ _ _ h
        · have h := h.2 q
          refine g_bipush (pc := 104) (v := 6) hX d_Mo_mat_104 (by decide) ?_
          refine g_goto (pc := 106) (tgt := 138) hX d_Mo_mat_106 (by decide) ?_
          refine g_sub [1] rfl ?_
          exact k_Mo_mat_c138 hX hR hN hQ _ _ _ _ _ h
    · have h := h.2 q
      refine g_aload_n (pc := 34) hX d_Mo_mat_34 rfl 1 rfl ?_
      refine g_callV_V (pc := 35) hX hR f3 cf9 rfl lk_Mo_267 mf_Mo_bracket (c_Mo_bracket _ _ _ h) rfl rfl rfl ⟨by decide, by decide⟩ (cat_sum _ (Nat.le_of_ble_eq_true rfl)) d_Mo_mat_35 (fun A29 h => ?_)
      refine g_aload_n (pc := 38) hX d_Mo_mat_38 rfl 1 rfl ?_
      refine g_iconst (pc := 39) (v := 0) hX d_Mo_mat_39 (by decide) ?_
      refine g_aload_n (pc := 40) hX d_Mo_mat_40 rfl 1 rfl ?_
      refine g_iconst (pc := 41) (v := 0) hX d_Mo_mat_41 (by decide) ?_
      refine g_callV_I (pc := 42) hX hR f3 cf9 rfl lk_Mo_286 mf_Mo_expression (c_Mo_expression _ _ _ _ h) rfl rfl rfl ⟨by decide, by decide⟩ (cat_sum _ (Nat.le_of_ble_eq_true rfl)) d_Mo_mat_42 (fun r31 A30 h => ?_)
      refine g_callV_V (pc := 45) hX hR f3 cf9 rfl lk_Mo_290 mf_Mo_setExpr (c_Mo_setExpr _ _ _ _ _ h) rfl rfl rfl ⟨by decide, by decide⟩ (cat_sum _ (Nat.le_of_ble_eq_true rfl)) d_Mo_mat_45 (fun A32 h => ?_)
      refine g_aload_n (pc := 48) hX d_Mo_mat_48 rfl 1 rfl ?_
      refine g_callV_V (pc := 49) hX hR f3 cf9 rfl lk_Mo_293 mf_Mo_shut (c_Mo_shut _ _ _ h) rfl rfl rfl ⟨by decide, by decide⟩ (cat_sum _ (Nat.le_of_ble_eq_true rfl)) d_Mo_mat_49 (fun A33 h => ?_)
      refine g_aload_n (pc := 52) hX d_Mo_mat_52 rfl 1 rfl ?_
      refine g_bipush (pc := 53) (v := 42) hX d_Mo_mat_53 (by decide) ?_
      refine g_callV_V (pc := 55) hX hR f3 cf9 rfl lk_Mo_248 mf_Mo_need (c_Mo_need _ _ _ _ h) rfl rfl rfl ⟨by decide, by decide⟩ (cat_sum _ (Nat.le_of_ble_eq_true rfl)) d_Mo_mat_55 (fun A34 h => ?_)
      refine g_aload_n (pc := 58) hX d_Mo_mat_58 rfl 1 rfl ?_
      refine g_iconst (pc := 59) (v := 1) hX d_Mo_mat_59 (by decide) ?_
      refine g_iconst (pc := 60) (v := 4) hX d_Mo_mat_60 (by decide) ?_
      refine g_callV_V (pc := 61) hX hR f3 cf9 rfl lk_Mo_279 mf_Mo_setArg (c_Mo_setArg _ _ _ _ _ h) rfl rfl rfl ⟨by decide, by decide⟩ (cat_sum _ (Nat.le_of_ble_eq_true rfl)) d_Mo_mat_61 (fun A35 h => ?_)
      refine g_aload_n (pc := 64) hX d_Mo_mat_64 rfl 1 rfl ?_
      refine g_iconst (pc := 65) (v := 2) hX d_Mo_mat_65 (by decide) ?_
      refine g_aload_n (pc := 66) hX d_Mo_mat_66 rfl 1 rfl ?_
      refine g_callV_I (pc := 67) hX hR f3 cf9 rfl lk_Mo_283 mf_Mo_matrix (c_Mo_matrix _ _ _ h) rfl rfl rfl ⟨by decide, by decide⟩ (cat_sum _ (Nat.le_of_ble_eq_true rfl)) d_Mo_mat_67 (fun r37 A36 h => ?_)
      refine g_callV_V (pc := 70) hX hR f3 cf9 rfl lk_Mo_279 mf_Mo_setArg (c_Mo_setArg _ _ _ _ _ h) rfl rfl rfl ⟨by decide, by decide⟩ (cat_sum _ (Nat.le_of_ble_eq_true rfl)) d_Mo_mat_70 (fun A38 h => ?_)
      refine g_goto (pc := 73) (tgt := 215) hX d_Mo_mat_73 (by decide) ?_
      exact g_vret hX hQ h d_Mo_mat_215
  · have h := h.2 q
    exact g_vret hX hQ h d_Mo_mat_27
def wp_Mo_statement_c175 (K : Mem → Prop) (x0 : Nat) (x1 : Int32) (A : Mem) : Prop := ((¬ x1 = 15 → kd x0 = 9 ∧ (((gI A x0 2) ≤ (gI A x0 4) → K A) ∧ (¬ (gI A x0 2) ≤ (gI A x0 4) → K (sI A x0 7 1)))) ∧ (x1 = 15 → kd x0 = 9 ∧ (((gI (sI A x0 4 (gI A x0 2)) x0 2) ≤ (gI (sI A x0 4 (gI A x0 2)) x0 4) → K (sI A x0 4 (gI A x0 2))) ∧ (¬ (gI (sI A x0 4 (gI A x0 2)) x0 2) ≤ (gI (sI A x0 4 (gI A x0 2)) x0 4) → K (sI (sI A x0 4 (gI A x0 2)) x0 7 1)))))
def wp_Mo_statement_c155 (K : Mem → Prop) (x0 : Nat) (x1 : Int32) (A : Mem) : Prop := ((¬ x1 = 13 → ((¬ x1 = 14 → wp_Mo_statement_c175 K x0 x1 A) ∧ (x1 = 14 → kd x0 = 9 ∧ wp_Mo_mat x0 A (fun (A43 : Mem) => wp_Mo_statement_c175 K x0 x1 A43)))) ∧ (x1 = 13 → kd x0 = 9 ∧ wp_Mo_def x0 A (fun (A45 : Mem) => ((¬ x1 = 14 → wp_Mo_statement_c175 K x0 x1 A45) ∧ (x1 = 14 → wp_Mo_mat x0 A45 (fun (A47 : Mem) => wp_Mo_statement_c175 K x0 x1 A47))))))
def wp_Mo_statement_c135 (K : Mem → Prop) (x0 : Nat) (x1 : Int32) (A : Mem) : Prop := ((¬ x1 = 10 → ((¬ x1 = 12 → wp_Mo_statement_c155 K x0 x1 A) ∧ (x1 = 12 → kd x0 = 9 ∧ wp_Mo_dim x0 A (fun (A38 : Mem) => wp_Mo_statement_c155 K x0 x1 A38)))) ∧ (x1 = 10 → kd x0 = 9 ∧ wp_Mo_numbers x0 A (fun (A40 : Mem) => ((¬ x1 = 12 → wp_Mo_statement_c155 K x0 x1 A40) ∧ (x1 = 12 → wp_Mo_dim x0 A40 (fun (A42 : Mem) => wp_Mo_statement_c155 K x0 x1 A42))))))
def wp_Mo_statement_c110 (K : Mem → Prop) (x0 : Nat) (x1 : Int32) (A : Mem) : Prop := ((¬ x1 = 8 → ((¬ x1 = 9 → wp_Mo_statement_c135 K x0 x1 A) ∧ (x1 = 9 → kd x0 = 9 ∧ wp_Mo_target x0 A (fun (A31 : Mem) => wp_Mo_statement_c135 K x0 x1 A31)))) ∧ (x1 = 8 → kd x0 = 9 ∧ wp_Mo_variable0 x0 A (fun (r34 : Int32) (A33 : Mem) => wp_Mo_setArg x0 0 r34 A33 (fun (A36 : Mem) => ((¬ x1 = 9 → wp_Mo_statement_c135 K x0 x1 A36) ∧ (x1 = 9 → wp_Mo_target x0 A36 (fun (A37 : Mem) => wp_Mo_statement_c135 K x0 x1 A37)))))))
def wp_Mo_statement_c91 (K : Mem → Prop) (x0 : Nat) (x1 : Int32) (A : Mem) : Prop := ((¬ x1 = 4 → ((¬ x1 = 7 → wp_Mo_statement_c110 K x0 x1 A) ∧ (x1 = 7 → kd x0 = 9 ∧ wp_Mo_loop x0 A (fun (A26 : Mem) => wp_Mo_statement_c110 K x0 x1 A26)))) ∧ (x1 = 4 → kd x0 = 9 ∧ wp_Mo_choice x0 A (fun (A28 : Mem) => ((¬ x1 = 7 → wp_Mo_statement_c110 K x0 x1 A28) ∧ (x1 = 7 → wp_Mo_loop x0 A28 (fun (A30 : Mem) => wp_Mo_statement_c110 K x0 x1 A30))))))
def wp_Mo_statement_c72 (K : Mem → Prop) (x0 : Nat) (x1 : Int32) (A : Mem) : Prop := ((x1 = 3 → kd x0 = 9 ∧ wp_Mo_lineNumber x0 A (fun (r19 : Int32) (A18 : Mem) => wp_Mo_setArg x0 0 r19 A18 (fun (A21 : Mem) => wp_Mo_statement_c91 K x0 x1 A21))) ∧ (¬ x1 = 3 → ((¬ x1 = 5 → wp_Mo_statement_c91 K x0 x1 A) ∧ (x1 = 5 → kd x0 = 9 ∧ wp_Mo_lineNumber x0 A (fun (r23 : Int32) (A22 : Mem) => wp_Mo_setArg x0 0 r23 A22 (fun (A25 : Mem) => wp_Mo_statement_c91 K x0 x1 A25))))))
def wp_Mo_statement_c48 (K : Mem → Prop) (x0 : Nat) (x1 : Int32) (A : Mem) : Prop := ((¬ x1 = 1 → ((¬ x1 = 2 → wp_Mo_statement_c72 K x0 x1 A) ∧ (x1 = 2 → kd x0 = 9 ∧ wp_Mo_condition x0 A (fun (A11 : Mem) => wp_Mo_statement_c72 K x0 x1 A11)))) ∧ (x1 = 1 → kd x0 = 9 ∧ wp_Mo_expression x0 0 A (fun (r14 : Int32) (A13 : Mem) => wp_Mo_setExpr x0 0 r14 A13 (fun (A16 : Mem) => ((¬ x1 = 2 → wp_Mo_statement_c72 K x0 x1 A16) ∧ (x1 = 2 → wp_Mo_condition x0 A16 (fun (A17 : Mem) => wp_Mo_statement_c72 K x0 x1 A17)))))))
def wp_Mo_statement (o : Nat) (A : Mem) (K : Mem → Prop) : Prop := kd o = 9 ∧ wp_Mo_takeWord o 0 16 A (fun (r2 : Int32) (A1 : Mem) => kd (gR A1 o 11) = 51 ∧ vp_in 24 (al (gR A1 o 11)) ∧ (((gI (sI A1 (gR A1 o 11) (Int32.toNatClampNeg 24) r2) o 7) = 0 → ((¬ r2 = 0 → wp_Mo_statement_c48 K o r2 (sI A1 (gR A1 o 11) (Int32.toNatClampNeg 24) r2)) ∧ (r2 = 0 → wp_Mo_target o (sI A1 (gR A1 o 11) (Int32.toNatClampNeg 24) r2) (fun (A6 : Mem) => wp_Mo_need o 61 A6 (fun (A7 : Mem) => wp_Mo_expression o 0 A7 (fun (r9 : Int32) (A8 : Mem) => wp_Mo_setExpr o 2 r9 A8 (fun (A10 : Mem) => wp_Mo_statement_c48 K o r2 A10))))))) ∧ (¬ (gI (sI A1 (gR A1 o 11) (Int32.toNatClampNeg 24) r2) o 7) = 0 → K (sI A1 (gR A1 o 11) (Int32.toNatClampNeg 24) r2))))
set_option maxRecDepth 100000 in
set_option maxHeartbeats 4000000 in
theorem k_Mo_statement_c175 {X : CXT} {E : EVT} {K : Mem → Prop} (hX : Gd X E "BasicMachineModel" prog_14_method_40_code) (hR : Rm X 6 152) (hN : xnL X = 2) (hQ : QV X E K) (x0 : Nat) (x1 : Int32) (A : Mem) (h : wp_Mo_statement_c175 K x0 x1 A) : G X E A 175 [(0, cr E x0), (1, .int (x1))] [] := by
  unfold wp_Mo_statement_c175 at h
  refine g_iload_n (pc := 175) hX d_Mo_statement_175 rfl 1 rfl ?_
  refine g_bipush (pc := 176) (v := 15) hX d_Mo_statement_176 (by decide) ?_
  refine g_icmp_ne (pc := 178) (tgt := 189) hX d_Mo_statement_178 (by decide) (fun q => ?_) (fun q => ?_)
  · have h := h.1 q
    refine g_aload_n (pc := 189) hX d_Mo_statement_189 rfl 0 rfl ?_
    obtain ⟨f48, h⟩ := h
    refine g_getI (pc := 190) hX fl_Mo_22 rfl f48 d_Mo_statement_190 ?_
    refine g_aload_n (pc := 193) hX d_Mo_statement_193 rfl 0 rfl ?_
    refine g_getI (pc := 194) hX fl_Mo_16 rfl f48 d_Mo_statement_194 ?_
    refine g_icmp_ge (pc := 197) (tgt := 205) hX d_Mo_statement_197 (by decide) (fun q => ?_) (fun q => ?_)
    · have h := h.1 q
      exact g_vret hX hQ h d_Mo_statement_205
    · have h := h.2 q
      refine g_aload_n (pc := 200) hX d_Mo_statement_200 rfl 0 rfl ?_
      refine g_iconst (pc := 201) (v := 1) hX d_Mo_statement_201 (by decide) ?_
      refine g_putZ (pc := 202) hX (Or.inr rfl) fl_Mo_31 rfl rfl rfl f48 d_Mo_statement_202 ?_
      exact g_vret hX hQ h d_Mo_statement_205
  · have h := h.2 q
    refine g_aload_n (pc := 181) hX d_Mo_statement_181 rfl 0 rfl ?_
    refine g_aload_n (pc := 182) hX d_Mo_statement_182 rfl 0 rfl ?_
    obtain ⟨f49, h⟩ := h
    refine g_getI (pc := 183) hX fl_Mo_16 rfl f49 d_Mo_statement_183 ?_
    refine g_putI (pc := 186) hX fl_Mo_22 rfl rfl rfl f49 d_Mo_statement_186 ?_
    refine g_aload_n (pc := 189) hX d_Mo_statement_189 rfl 0 rfl ?_
    refine g_getI (pc := 190) hX fl_Mo_22 rfl f49 d_Mo_statement_190 ?_
    refine g_aload_n (pc := 193) hX d_Mo_statement_193 rfl 0 rfl ?_
    refine g_getI (pc := 194) hX fl_Mo_16 rfl f49 d_Mo_statement_194 ?_
    refine g_icmp_ge (pc := 197) (tgt := 205) hX d_Mo_statement_197 (by decide) (fun q => ?_) (fun q => ?_)
    · have h := h.1 q
      exact g_vret hX hQ h d_Mo_statement_205
    · have h := h.2 q
      refine g_aload_n (pc := 200) hX d_Mo_statement_200 rfl 0 rfl ?_
      refine g_iconst (pc := 201) (v := 1) hX d_Mo_statement_201 (by decide) ?_
      refine g_putZ (pc := 202) hX (Or.inr rfl) fl_Mo_31 rfl rfl rfl f49 d_Mo_statement_202 ?_
      exact g_vret hX hQ h d_Mo_statement_205
set_option maxRecDepth 100000 in
set_option maxHeartbeats 4000000 in
theorem k_Mo_statement_c155 {X : CXT} {E : EVT} {K : Mem → Prop} (hX : Gd X E "BasicMachineModel" prog_14_method_40_code) (hR : Rm X 6 152) (hN : xnL X = 2) (hQ : QV X E K) (x0 : Nat) (x1 : Int32) (A : Mem) (h : wp_Mo_statement_c155 K x0 x1 A) : G X E A 155 [(0, cr E x0), (1, .int (x1))] [] := by
  unfold wp_Mo_statement_c155 at h
  refine g_iload_n (pc := 155) hX d_Mo_statement_155 rfl 1 rfl ?_
  refine g_bipush (pc := 156) (v := 13) hX d_Mo_statement_156 (by decide) ?_
  refine g_icmp_ne (pc := 158) (tgt := 165) hX d_Mo_statement_158 (by decide) (fun q => ?_) (fun q => ?_)
  · have h := h.1 q
    refine g_iload_n (pc := 165) hX d_Mo_statement_165 rfl 1 rfl ?_
    refine g_bipush (pc := 166) (v := 14) hX d_Mo_statement_166 (by decide) ?_
    refine g_icmp_ne (pc := 168) (tgt := 175) hX d_Mo_statement_168 (by decide) (fun q => ?_) (fun q => ?_)
    · have h := h.1 q
      refine g_sub [0, 1] rfl ?_
      exact k_Mo_statement_c175 hX hR hN hQ _ _ _ h
    · have h := h.2 q
      refine g_aload_n (pc := 171) hX d_Mo_statement_171 rfl 0 rfl ?_
      obtain ⟨f44, h⟩ := h
      refine g_callV_V (pc := 172) hX hR f44 cf9 rfl lk_Mo_323 mf_Mo_mat (c_Mo_mat _ _ _ h) rfl rfl rfl ⟨by decide, by decide⟩ (cat_sum _ (Nat.le_of_ble_eq_true rfl)) d_Mo_statement_172 (fun A43 h => ?_)
      refine g_sub [0, 1] rfl ?_
      exact k_Mo_statement_c175 hX hR hN hQ _ _ _ h
  · have h := h.2 q
    refine g_aload_n (pc := 161) hX d_Mo_statement_161 rfl 0 rfl ?_
    obtain ⟨f46, h⟩ := h
    refine g_callV_V (pc := 162) hX hR f46 cf9 rfl lk_Mo_320 mf_Mo_def (c_Mo_def _ _ _ h) rfl rfl rfl ⟨by decide, by decide⟩ (cat_sum _ (Nat.le_of_ble_eq_true rfl)) d_Mo_statement_162 (fun A45 h => ?_)
    refine g_iload_n (pc := 165) hX d_Mo_statement_165 rfl 1 rfl ?_
    refine g_bipush (pc := 166) (v := 14) hX d_Mo_statement_166 (by decide) ?_
    refine g_icmp_ne (pc := 168) (tgt := 175) hX d_Mo_statement_168 (by decide) (fun q => ?_) (fun q => ?_)
    · have h := h.1 q
      refine g_sub [0, 1] rfl ?_
      exact k_Mo_statement_c175 hX hR hN hQ _ _ _ h
    · have h := h.2 q
      refine g_aload_n (pc := 171) hX d_Mo_statement_171 rfl 0 rfl ?_
      refine g_callV_V (pc := 172) hX hR f46 cf9 rfl lk_Mo_323 mf_Mo_mat (c_Mo_mat _ _ _ h) rfl rfl rfl ⟨by decide, by decide⟩ (cat_sum _ (Nat.le_of_ble_eq_true rfl)) d_Mo_statement_172 (fun A47 h => ?_)
      refine g_sub [0, 1] rfl ?_
      exact k_Mo_statement_c175 hX hR hN hQ _ _ _ h
set_option maxRecDepth 100000 in
set_option maxHeartbeats 4000000 in
theorem k_Mo_statement_c135 {X : CXT} {E : EVT} {K : Mem → Prop} (hX : Gd X E "BasicMachineModel" prog_14_method_40_code) (hR : Rm X 6 152) (hN : xnL X = 2) (hQ : QV X E K) (x0 : Nat) (x1 : Int32) (A : Mem) (h : wp_Mo_statement_c135 K x0 x1 A) : G X E A 135 [(0, cr E x0), (1, .int (x1))] [] := by
  unfold wp_Mo_statement_c135 at h
  refine g_iload_n (pc := 135) hX d_Mo_statement_135 rfl 1 rfl ?_
  refine g_bipush (pc := 136) (v := 10) hX d_Mo_statement_136 (by decide) ?_
  refine g_icmp_ne (pc := 138) (tgt := 145) hX d_Mo_statement_138 (by decide) (fun q => ?_) (fun q => ?_)
  · have h := h.1 q
    refine g_iload_n (pc := 145) hX d_Mo_statement_145 rfl 1 rfl ?_
    refine g_bipush (pc := 146) (v := 12) hX d_Mo_statement_146 (by decide) ?_
    refine g_icmp_ne (pc := 148) (tgt := 155) hX d_Mo_statement_148 (by decide) (fun q => ?_) (fun q => ?_)
    · have h := h.1 q
      refine g_sub [0, 1] rfl ?_
      exact k_Mo_statement_c155 hX hR hN hQ _ _ _ h
    · have h := h.2 q
      refine g_aload_n (pc := 151) hX d_Mo_statement_151 rfl 0 rfl ?_
      obtain ⟨f39, h⟩ := h
      refine g_callV_V (pc := 152) hX hR f39 cf9 rfl lk_Mo_317 mf_Mo_dim (c_Mo_dim _ _ _ h) rfl rfl rfl ⟨by decide, by decide⟩ (cat_sum _ (Nat.le_of_ble_eq_true rfl)) d_Mo_statement_152 (fun A38 h => ?_)
      refine g_sub [0, 1] rfl ?_
      exact k_Mo_statement_c155 hX hR hN hQ _ _ _ h
  · have h := h.2 q
    refine g_aload_n (pc := 141) hX d_Mo_statement_141 rfl 0 rfl ?_
    obtain ⟨f41, h⟩ := h
    refine g_callV_V (pc := 142) hX hR f41 cf9 rfl lk_Mo_314 mf_Mo_numbers (c_Mo_numbers _ _ _ h) rfl rfl rfl ⟨by decide, by decide⟩ (cat_sum _ (Nat.le_of_ble_eq_true rfl)) d_Mo_statement_142 (fun A40 h => ?_)
    refine g_iload_n (pc := 145) hX d_Mo_statement_145 rfl 1 rfl ?_
    refine g_bipush (pc := 146) (v := 12) hX d_Mo_statement_146 (by decide) ?_
    refine g_icmp_ne (pc := 148) (tgt := 155) hX d_Mo_statement_148 (by decide) (fun q => ?_) (fun q => ?_)
    · have h := h.1 q
      refine g_sub [0, 1] rfl ?_
      exact k_Mo_statement_c155 hX hR hN hQ _ _ _ h
    · have h := h.2 q
      refine g_aload_n (pc := 151) hX d_Mo_statement_151 rfl 0 rfl ?_
      refine g_callV_V (pc := 152) hX hR f41 cf9 rfl lk_Mo_317 mf_Mo_dim (c_Mo_dim _ _ _ h) rfl rfl rfl ⟨by decide, by decide⟩ (cat_sum _ (Nat.le_of_ble_eq_true rfl)) d_Mo_statement_152 (fun A42 h => ?_)
      refine g_sub [0, 1] rfl ?_
      exact k_Mo_statement_c155 hX hR hN hQ _ _ _ h
set_option maxRecDepth 100000 in
set_option maxHeartbeats 4000000 in
theorem k_Mo_statement_c110 {X : CXT} {E : EVT} {K : Mem → Prop} (hX : Gd X E "BasicMachineModel" prog_14_method_40_code) (hR : Rm X 6 152) (hN : xnL X = 2) (hQ : QV X E K) (x0 : Nat) (x1 : Int32) (A : Mem) (h : wp_Mo_statement_c110 K x0 x1 A) : G X E A 110 [(0, cr E x0), (1, .int (x1))] [] := by
  unfold wp_Mo_statement_c110 at h
  refine g_iload_n (pc := 110) hX d_Mo_statement_110 rfl 1 rfl ?_
  refine g_bipush (pc := 111) (v := 8) hX d_Mo_statement_111 (by decide) ?_
  refine g_icmp_ne (pc := 113) (tgt := 125) hX d_Mo_statement_113 (by decide) (fun q => ?_) (fun q => ?_)
  · have h := h.1 q
    refine g_iload_n (pc := 125) hX d_Mo_statement_125 rfl 1 rfl ?_
    refine g_bipush (pc := 126) (v := 9) hX d_Mo_statement_126 (by decide) ?_
    refine g_icmp_ne (pc := 128) (tgt := 135) hX d_Mo_statement_128 (by decide) (fun q => ?_) (fun q => ?_)
    · have h := h.1 q
      refine g_sub [0, 1] rfl ?_
      exact k_Mo_statement_c135 hX hR hN hQ _ _ _ h
    · have h := h.2 q
      refine g_aload_n (pc := 131) hX d_Mo_statement_131 rfl 0 rfl ?_
      obtain ⟨f32, h⟩ := h
      refine g_callV_V (pc := 132) hX hR f32 cf9 rfl lk_Mo_302 mf_Mo_target (c_Mo_target _ _ _ h) rfl rfl rfl ⟨by decide, by decide⟩ (cat_sum _ (Nat.le_of_ble_eq_true rfl)) d_Mo_statement_132 (fun A31 h => ?_)
      refine g_sub [0, 1] rfl ?_
      exact k_Mo_statement_c135 hX hR hN hQ _ _ _ h
  · have h := h.2 q
    refine g_aload_n (pc := 116) hX d_Mo_statement_116 rfl 0 rfl ?_
    refine g_iconst (pc := 117) (v := 0) hX d_Mo_statement_117 (by decide) ?_
    refine g_aload_n (pc := 118) hX d_Mo_statement_118 rfl 0 rfl ?_
    obtain ⟨f35, h⟩ := h
    refine g_callV_I (pc := 119) hX hR f35 cf9 rfl lk_Mo_261 mf_Mo_variable0 (c_Mo_variable0 _ _ _ h) rfl rfl rfl ⟨by decide, by decide⟩ (cat_sum _ (Nat.le_of_ble_eq_true rfl)) d_Mo_statement_119 (fun r34 A33 h => ?_)
    refine g_callV_V (pc := 122) hX hR f35 cf9 rfl lk_Mo_279 mf_Mo_setArg (c_Mo_setArg _ _ _ _ _ h) rfl rfl rfl ⟨by decide, by decide⟩ (cat_sum _ (Nat.le_of_ble_eq_true rfl)) d_Mo_statement_122 (fun A36 h => ?_)
    refine g_iload_n (pc := 125) hX d_Mo_statement_125 rfl 1 rfl ?_
    refine g_bipush (pc := 126) (v := 9) hX d_Mo_statement_126 (by decide) ?_
    refine g_icmp_ne (pc := 128) (tgt := 135) hX d_Mo_statement_128 (by decide) (fun q => ?_) (fun q => ?_)
    · have h := h.1 q
      refine g_sub [0, 1] rfl ?_
      exact k_Mo_statement_c135 hX hR hN hQ _ _ _ h
    · have h := h.2 q
      refine g_aload_n (pc := 131) hX d_Mo_statement_131 rfl 0 rfl ?_
      refine g_callV_V (pc := 132) hX hR f35 cf9 rfl lk_Mo_302 mf_Mo_target (c_Mo_target _ _ _ h) rfl rfl rfl ⟨by decide, by decide⟩ (cat_sum _ (Nat.le_of_ble_eq_true rfl)) d_Mo_statement_132 (fun A37 h => ?_)
      refine g_sub [0, 1] rfl ?_
      exact k_Mo_statement_c135 hX hR hN hQ _ _ _ h
set_option maxRecDepth 100000 in
set_option maxHeartbeats 4000000 in
theorem k_Mo_statement_c91 {X : CXT} {E : EVT} {K : Mem → Prop} (hX : Gd X E "BasicMachineModel" prog_14_method_40_code) (hR : Rm X 6 152) (hN : xnL X = 2) (hQ : QV X E K) (x0 : Nat) (x1 : Int32) (A : Mem) (h : wp_Mo_statement_c91 K x0 x1 A) : G X E A 91 [(0, cr E x0), (1, .int (x1))] [] := by
  unfold wp_Mo_statement_c91 at h
  refine g_iload_n (pc := 91) hX d_Mo_statement_91 rfl 1 rfl ?_
  refine g_iconst (pc := 92) (v := 4) hX d_Mo_statement_92 (by decide) ?_
  refine g_icmp_ne (pc := 93) (tgt := 100) hX d_Mo_statement_93 (by decide) (fun q => ?_) (fun q => ?_)
  · have h := h.1 q
    refine g_iload_n (pc := 100) hX d_Mo_statement_100 rfl 1 rfl ?_
    refine g_bipush (pc := 101) (v := 7) hX d_Mo_statement_101 (by decide) ?_
    refine g_icmp_ne (pc := 103) (tgt := 110) hX d_Mo_statement_103 (by decide) (fun q => ?_) (fun q => ?_)
    · have h := h.1 q
      refine g_sub [0, 1] rfl ?_
      exact k_Mo_statement_c110 hX hR hN hQ _ _ _ h
    · have h := h.2 q
      refine g_aload_n (pc := 106) hX d_Mo_statement_106 rfl 0 rfl ?_
      obtain ⟨f27, h⟩ := h
      refine g_callV_V (pc := 107) hX hR f27 cf9 rfl lk_Mo_311 mf_Mo_loop (c_Mo_loop _ _ _ h) rfl rfl rfl ⟨by decide, by decide⟩ (cat_sum _ (Nat.le_of_ble_eq_true rfl)) d_Mo_statement_107 (fun A26 h => ?_)
      refine g_sub [0, 1] rfl ?_
      exact k_Mo_statement_c110 hX hR hN hQ _ _ _ h
  · have h := h.2 q
    refine g_aload_n (pc := 96) hX d_Mo_statement_96 rfl 0 rfl ?_
    obtain ⟨f29, h⟩ := h
    refine g_callV_V (pc := 97) hX hR f29 cf9 rfl lk_Mo_308 mf_Mo_choice (c_Mo_choice _ _ _ h) rfl rfl rfl ⟨by decide, by decide⟩ (cat_sum _ (Nat.le_of_ble_eq_true rfl)) d_Mo_statement_97 (fun A28 h => ?_)
    refine g_iload_n (pc := 100) hX d_Mo_statement_100 rfl 1 rfl ?_
    refine g_bipush (pc := 101) (v := 7) hX d_Mo_statement_101 (by decide) ?_
    refine g_icmp_ne (pc := 103) (tgt := 110) hX d_Mo_statement_103 (by decide) (fun q => ?_) (fun q => ?_)
    · have h := h.1 q
      refine g_sub [0, 1] rfl ?_
      exact k_Mo_statement_c110 hX hR hN hQ _ _ _ h
    · have h := h.2 q
      refine g_aload_n (pc := 106) hX d_Mo_statement_106 rfl 0 rfl ?_
      refine g_callV_V (pc := 107) hX hR f29 cf9 rfl lk_Mo_311 mf_Mo_loop (c_Mo_loop _ _ _ h) rfl rfl rfl ⟨by decide, by decide⟩ (cat_sum _ (Nat.le_of_ble_eq_true rfl)) d_Mo_statement_107 (fun A30 h => ?_)
      refine g_sub [0, 1] rfl ?_
      exact k_Mo_statement_c110 hX hR hN hQ _ _ _ h
set_option maxRecDepth 100000 in
set_option maxHeartbeats 4000000 in
theorem k_Mo_statement_c72 {X : CXT} {E : EVT} {K : Mem → Prop} (hX : Gd X E "BasicMachineModel" prog_14_method_40_code) (hR : Rm X 6 152) (hN : xnL X = 2) (hQ : QV X E K) (x0 : Nat) (x1 : Int32) (A : Mem) (h : wp_Mo_statement_c72 K x0 x1 A) : G X E A 72 [(0, cr E x0), (1, .int (x1))] [] := by
  unfold wp_Mo_statement_c72 at h
  refine g_iload_n (pc := 72) hX d_Mo_statement_72 rfl 1 rfl ?_
  refine g_iconst (pc := 73) (v := 3) hX d_Mo_statement_73 (by decide) ?_
  refine g_icmp_eq (pc := 74) (tgt := 82) hX d_Mo_statement_74 (by decide) (fun q => ?_) (fun q => ?_)
  · have h := h.1 q
    refine g_aload_n (pc := 82) hX d_Mo_statement_82 rfl 0 rfl ?_
    refine g_iconst (pc := 83) (v := 0) hX d_Mo_statement_83 (by decide) ?_
    refine g_aload_n (pc := 84) hX d_Mo_statement_84 rfl 0 rfl ?_
    obtain ⟨f20, h⟩ := h
    refine g_callV_I (pc := 85) hX hR f20 cf9 rfl lk_Mo_296 mf_Mo_lineNumber (c_Mo_lineNumber _ _ _ h) rfl rfl rfl ⟨by decide, by decide⟩ (cat_sum _ (Nat.le_of_ble_eq_true rfl)) d_Mo_statement_85 (fun r19 A18 h => ?_)
    refine g_callV_V (pc := 88) hX hR f20 cf9 rfl lk_Mo_279 mf_Mo_setArg (c_Mo_setArg _ _ _ _ _ h) rfl rfl rfl ⟨by decide, by decide⟩ (cat_sum _ (Nat.le_of_ble_eq_true rfl)) d_Mo_statement_88 (fun A21 h => ?_)
    refine g_sub [0, 1] rfl ?_
    exact k_Mo_statement_c91 hX hR hN hQ _ _ _ h
  · have h := h.2 q
    refine g_iload_n (pc := 77) hX d_Mo_statement_77 rfl 1 rfl ?_
    refine g_iconst (pc := 78) (v := 5) hX d_Mo_statement_78 (by decide) ?_
    refine g_icmp_ne (pc := 79) (tgt := 91) hX d_Mo_statement_79 (by decide) (fun q => ?_) (fun q => ?_)
    · have h := h.1 q
      refine g_sub [0, 1] rfl ?_
      exact k_Mo_statement_c91 hX hR hN hQ _ _ _ h
    · have h := h.2 q
      refine g_aload_n (pc := 82) hX d_Mo_statement_82 rfl 0 rfl ?_
      refine g_iconst (pc := 83) (v := 0) hX d_Mo_statement_83 (by decide) ?_
      refine g_aload_n (pc := 84) hX d_Mo_statement_84 rfl 0 rfl ?_
      obtain ⟨f24, h⟩ := h
      refine g_callV_I (pc := 85) hX hR f24 cf9 rfl lk_Mo_296 mf_Mo_lineNumber (c_Mo_lineNumber _ _ _ h) rfl rfl rfl ⟨by decide, by decide⟩ (cat_sum _ (Nat.le_of_ble_eq_true rfl)) d_Mo_statement_85 (fun r23 A22 h => ?_)
      refine g_callV_V (pc := 88) hX hR f24 cf9 rfl lk_Mo_279 mf_Mo_setArg (c_Mo_setArg _ _ _ _ _ h) rfl rfl rfl ⟨by decide, by decide⟩ (cat_sum _ (Nat.le_of_ble_eq_true rfl)) d_Mo_statement_88 (fun A25 h => ?_)
      refine g_sub [0, 1] rfl ?_
      exact k_Mo_statement_c91 hX hR hN hQ _ _ _ h
set_option maxRecDepth 100000 in
set_option maxHeartbeats 4000000 in
theorem k_Mo_statement_c48 {X : CXT} {E : EVT} {K : Mem → Prop} (hX : Gd X E "BasicMachineModel" prog_14_method_40_code) (hR : Rm X 6 152) (hN : xnL X = 2) (hQ : QV X E K) (x0 : Nat) (x1 : Int32) (A : Mem) (h : wp_Mo_statement_c48 K x0 x1 A) : G X E A 48 [(0, cr E x0), (1, .int (x1))] [] := by
  unfold wp_Mo_statement_c48 at h
  refine g_iload_n (pc := 48) hX d_Mo_statement_48 rfl 1 rfl ?_
  refine g_iconst (pc := 49) (v := 1) hX d_Mo_statement_49 (by decide) ?_
  refine g_icmp_ne (pc := 50) (tgt := 63) hX d_Mo_statement_50 (by decide) (fun q => ?_) (fun q => ?_)
  · have h := h.1 q
    refine g_iload_n (pc := 63) hX d_Mo_statement_63 rfl 1 rfl ?_
    refine g_iconst (pc := 64) (v := 2) hX d_Mo_statement_64 (by decide) ?_
    refine g_icmp_ne (pc := 65) (tgt := 72) hX d_Mo_statement_65 (by decide) (fun q => ?_) (fun q => ?_)
    · have h := h.1 q
      refine g_sub [0, 1] rfl ?_
      exact k_Mo_statement_c72 hX hR hN hQ _ _ _ h
    · have h := h.2 q
      refine g_aload_n (pc := 68) hX d_Mo_statement_68 rfl 0 rfl ?_
      obtain ⟨f12, h⟩ := h
      refine g_callV_V (pc := 69) hX hR f12 cf9 rfl lk_Mo_305 mf_Mo_condition (c_Mo_condition _ _ _ h) rfl rfl rfl ⟨by decide, by decide⟩ (cat_sum _ (Nat.le_of_ble_eq_true rfl)) d_Mo_statement_69 (fun A11 h => ?_)
      refine g_sub [0, 1] rfl ?_
      exact k_Mo_statement_c72 hX hR hN hQ _ _ _ h
  · have h := h.2 q
    refine g_aload_n (pc := 53) hX d_Mo_statement_53 rfl 0 rfl ?_
    refine g_iconst (pc := 54) (v := 0) hX d_Mo_statement_54 (by decide) ?_
    refine g_aload_n (pc := 55) hX d_Mo_statement_55 rfl 0 rfl ?_
    refine g_iconst (pc := 56) (v := 0) hX d_Mo_statement_56 (by decide) ?_
    obtain ⟨f15, h⟩ := h
    refine g_callV_I (pc := 57) hX hR f15 cf9 rfl lk_Mo_286 mf_Mo_expression (c_Mo_expression _ _ _ _ h) rfl rfl rfl ⟨by decide, by decide⟩ (cat_sum _ (Nat.le_of_ble_eq_true rfl)) d_Mo_statement_57 (fun r14 A13 h => ?_)
    refine g_callV_V (pc := 60) hX hR f15 cf9 rfl lk_Mo_290 mf_Mo_setExpr (c_Mo_setExpr _ _ _ _ _ h) rfl rfl rfl ⟨by decide, by decide⟩ (cat_sum _ (Nat.le_of_ble_eq_true rfl)) d_Mo_statement_60 (fun A16 h => ?_)
    refine g_iload_n (pc := 63) hX d_Mo_statement_63 rfl 1 rfl ?_
    refine g_iconst (pc := 64) (v := 2) hX d_Mo_statement_64 (by decide) ?_
    refine g_icmp_ne (pc := 65) (tgt := 72) hX d_Mo_statement_65 (by decide) (fun q => ?_) (fun q => ?_)
    · have h := h.1 q
      refine g_sub [0, 1] rfl ?_
      exact k_Mo_statement_c72 hX hR hN hQ _ _ _ h
    · have h := h.2 q
      refine g_aload_n (pc := 68) hX d_Mo_statement_68 rfl 0 rfl ?_
      refine g_callV_V (pc := 69) hX hR f15 cf9 rfl lk_Mo_305 mf_Mo_condition (c_Mo_condition _ _ _ h) rfl rfl rfl ⟨by decide, by decide⟩ (cat_sum _ (Nat.le_of_ble_eq_true rfl)) d_Mo_statement_69 (fun A17 h => ?_)
      refine g_sub [0, 1] rfl ?_
      exact k_Mo_statement_c72 hX hR hN hQ _ _ _ h
set_option maxRecDepth 100000 in
set_option maxHeartbeats 4000000 in
theorem c_Mo_statement (o : Nat) (A : Mem) (K : Mem → Prop) (h : wp_Mo_statement o A K) : CtV y_Mo_statement prog_14_method_40_code 2 6 152 (fun E => [cr E o]) A K := by
  refine ctV_of "BasicMachineModel" (by decide) rfl (fun E => [(0, cr E o)]) (fun E => by simp [lg_sl, cr_cat, ca_i, ca_l, ca_d]) (fun E => by simp [lv_args, cr_cat, ca_i, ca_l, ca_d]) (fun X E hX hR hN hQ => ?_)
  unfold wp_Mo_statement at h
  refine g_aload_n (pc := 0) hX d_Mo_statement_0 rfl 0 rfl ?_
  refine g_iconst (pc := 1) (v := 0) hX d_Mo_statement_1 (by decide) ?_
  refine g_bipush (pc := 2) (v := 16) hX d_Mo_statement_2 (by decide) ?_
  obtain ⟨f3, h⟩ := h
  refine g_callV_I (pc := 4) hX hR f3 cf9 rfl lk_Mo_257 mf_Mo_takeWord (c_Mo_takeWord _ _ _ _ _ h) rfl rfl rfl ⟨by decide, by decide⟩ (cat_sum _ (Nat.le_of_ble_eq_true rfl)) d_Mo_statement_4 (fun r2 A1 h => ?_)
  refine g_istore_n (pc := 7) (lv0 := [(0, cr E o)]) hX d_Mo_statement_7 rfl (by rw [hN]; decide) (g_st1b (ks := [0]) rfl (cr_cat _ _) rfl rfl) ?_
  refine g_aload_n (pc := 8) hX d_Mo_statement_8 rfl 1 rfl ?_
  refine g_getR (pc := 9) hX fl_Mo_46 rfl f3 d_Mo_statement_9 ?_
  refine g_bipush (pc := 12) (v := 24) hX d_Mo_statement_12 (by decide) ?_
  refine g_iload_n (pc := 14) hX d_Mo_statement_14 rfl 0 rfl ?_
  obtain ⟨f4, h⟩ := h
  obtain ⟨f5, h⟩ := h
  refine g_iastore (pc := 15) hX f4 f5 d_Mo_statement_15 ?_
  refine g_aload_n (pc := 16) hX d_Mo_statement_16 rfl 1 rfl ?_
  refine g_getI (pc := 17) hX fl_Mo_31 rfl f3 d_Mo_statement_17 ?_
  refine g_if_eq (pc := 20) (tgt := 24) hX d_Mo_statement_20 (by decide) (fun q => ?_) (fun q => ?_)
  · have h := h.1 q
    refine g_iload_n (pc := 24) hX d_Mo_statement_24 rfl 0 rfl ?_
    refine g_if_ne (pc := 25) (tgt := 48) hX d_Mo_statement_25 (by decide) (fun q => ?_) (fun q => ?_)
    · have h := h.1 q
      refine g_sub [1, 0] rfl ?_
      exact k_Mo_statement_c48 hX hR hN hQ _ _ _ h
    · have h := h.2 q
      refine g_aload_n (pc := 28) hX d_Mo_statement_28 rfl 1 rfl ?_
      refine g_callV_V (pc := 29) hX hR f3 cf9 rfl lk_Mo_302 mf_Mo_target (c_Mo_target _ _ _ h) rfl rfl rfl ⟨by decide, by decide⟩ (cat_sum _ (Nat.le_of_ble_eq_true rfl)) d_Mo_statement_29 (fun A6 h => ?_)
      refine g_aload_n (pc := 32) hX d_Mo_statement_32 rfl 1 rfl ?_
      refine g_bipush (pc := 33) (v := 61) hX d_Mo_statement_33 (by decide) ?_
      refine g_callV_V (pc := 35) hX hR f3 cf9 rfl lk_Mo_248 mf_Mo_need (c_Mo_need _ _ _ _ h) rfl rfl rfl ⟨by decide, by decide⟩ (cat_sum _ (Nat.le_of_ble_eq_true rfl)) d_Mo_statement_35 (fun A7 h => ?_)
      refine g_aload_n (pc := 38) hX d_Mo_statement_38 rfl 1 rfl ?_
      refine g_iconst (pc := 39) (v := 2) hX d_Mo_statement_39 (by decide) ?_
      refine g_aload_n (pc := 40) hX d_Mo_statement_40 rfl 1 rfl ?_
      refine g_iconst (pc := 41) (v := 0) hX d_Mo_statement_41 (by decide) ?_
      refine g_callV_I (pc := 42) hX hR f3 cf9 rfl lk_Mo_286 mf_Mo_expression (c_Mo_expression _ _ _ _ h) rfl rfl rfl ⟨by decide, by decide⟩ (cat_sum _ (Nat.le_of_ble_eq_true rfl)) d_Mo_statement_42 (fun r9 A8 h => ?_)
      refine g_callV_V (pc := 45) hX hR f3 cf9 rfl lk_Mo_290 mf_Mo_setExpr (c_Mo_setExpr _ _ _ _ _ h) rfl rfl rfl ⟨by decide, by decide⟩ (cat_sum _ (Nat.le_of_ble_eq_true rfl)) d_Mo_statement_45 (fun A10 h => ?_)
      refine g_sub [1, 0] rfl ?_
      exact k_Mo_statement_c48 hX hR hN hQ _ _ _ h
  · have h := h.2 q
    exact g_vret hX hQ h d_Mo_statement_23
def wp_Mo_slotOf_c2 (K : Int32 → Mem → Prop) : Nat → Nat → Int32 → Int32 → Mem → Prop
  | 0, _, _, _, _ => False
  | n + 1, x0, x1, x2, A => ((24 ≤ x2 → K (-1) A) ∧ (¬ 24 ≤ x2 → kd x0 = 9 ∧ kd (gR A x0 10) = 51 ∧ vp_in x2 (al (gR A x0 10)) ∧ ((¬ (gI A (gR A x0 10) (Int32.toNatClampNeg x2)) = x1 → wp_Mo_slotOf_c2 K n x0 x1 (x2 + 1) A) ∧ ((gI A (gR A x0 10) (Int32.toNatClampNeg x2)) = x1 → K x2 A))))
def wp_Mo_slotOf (o : Nat) (p1 : Int32) (A : Mem) (K : Int32 → Mem → Prop) : Prop := (∃ n9 : Nat, wp_Mo_slotOf_c2 K n9 o p1 0 A)
set_option maxRecDepth 100000 in
set_option maxHeartbeats 4000000 in
theorem k_Mo_slotOf_c2 {X : CXT} {E : EVT} {K : Int32 → Mem → Prop} (hX : Gd X E "BasicMachineModel" prog_14_method_41_code) (hR : Rm X 0 0) (hN : xnL X = 3) (hQ : QI X E K) : ∀ (n : Nat) (x0 : Nat) (x1 : Int32) (x2 : Int32) (A : Mem), wp_Mo_slotOf_c2 K n x0 x1 x2 A → G X E A 2 [(0, cr E x0), (1, .int (x1)), (2, .int (x2))] [] := by
  intro n
  induction n with
  | zero => intro x0 x1 x2 A h; exact h.elim
  | succ n ih =>
    intro x0 x1 x2 A h
    rw [wp_Mo_slotOf_c2] at h
    refine g_iload_n (pc := 2) hX d_Mo_slotOf_2 rfl 2 rfl ?_
    refine g_bipush (pc := 3) (v := 24) hX d_Mo_slotOf_3 (by decide) ?_
    refine g_icmp_ge (pc := 5) (tgt := 26) hX d_Mo_slotOf_5 (by decide) (fun q => ?_) (fun q => ?_)
    · have h := h.1 q
      refine g_iconst (pc := 26) (v := (-1)) hX d_Mo_slotOf_26 (by decide) ?_
      exact g_iret hX hQ h d_Mo_slotOf_27
    · have h := h.2 q
      refine g_aload_n (pc := 8) hX d_Mo_slotOf_8 rfl 0 rfl ?_
      obtain ⟨f1, h⟩ := h
      refine g_getR (pc := 9) hX fl_Mo_42 rfl f1 d_Mo_slotOf_9 ?_
      refine g_iload_n (pc := 12) hX d_Mo_slotOf_12 rfl 2 rfl ?_
      obtain ⟨f2, h⟩ := h
      obtain ⟨f3, h⟩ := h
      refine g_iaload (pc := 13) hX f2 f3 d_Mo_slotOf_13 ?_
      refine g_iload_n (pc := 14) hX d_Mo_slotOf_14 rfl 1 rfl ?_
      refine g_icmp_ne (pc := 15) (tgt := 20) hX d_Mo_slotOf_15 (by decide) (fun q => ?_) (fun q => ?_)
      · have h := h.1 q
        refine g_iinc (pc := 20) (v := (x2 + 1)) (lv0 := [(1, .int (x1)), (0, cr E x0)]) hX d_Mo_slotOf_20 2 rfl rfl (by rw [hN]; decide) (g_st1b (ks := [1, 0]) rfl rfl rfl rfl) ?_
        refine g_goto (pc := 23) (tgt := 2) hX d_Mo_slotOf_23 (by decide) ?_
        refine g_sub [2, 1, 0] rfl ?_
        exact ih _ _ _ _ h
      · have h := h.2 q
        refine g_iload_n (pc := 18) hX d_Mo_slotOf_18 rfl 2 rfl ?_
        exact g_iret hX hQ h d_Mo_slotOf_19
set_option maxRecDepth 100000 in
set_option maxHeartbeats 4000000 in
theorem c_Mo_slotOf (o : Nat) (p1 : Int32) (A : Mem) (K : Int32 → Mem → Prop) (h : wp_Mo_slotOf o p1 A K) : CtI y_Mo_slotOf prog_14_method_41_code 3 0 0 (fun E => [cr E o, .int (p1)]) A K := by
  refine ctI_of "BasicMachineModel" (by decide) rfl (fun E => [(0, cr E o), (1, .int (p1))]) (fun E => by simp [lg_sl, cr_cat, ca_i, ca_l, ca_d]) (fun E => by simp [lv_args, cr_cat, ca_i, ca_l, ca_d]) (fun X E hX hR hN hQ => ?_)
  unfold wp_Mo_slotOf at h
  refine g_iconst (pc := 0) (v := 0) hX d_Mo_slotOf_0 (by decide) ?_
  refine g_istore_n (pc := 1) (lv0 := [(1, .int (p1)), (0, cr E o)]) hX d_Mo_slotOf_1 rfl (by rw [hN]; decide) (g_st1b (ks := [1, 0]) rfl rfl rfl rfl) ?_
  refine g_sub [2, 1, 0] rfl ?_
  obtain ⟨n9, h⟩ := h
  exact k_Mo_slotOf_c2 hX hR hN hQ n9 _ _ _ _ h
def wp_Mo_copyTo_c101 (K : Mem → Prop) : Nat → Nat → Int32 → Int32 → Mem → Prop
  | 0, _, _, _, _ => False
  | n + 1, x0, x1, x2, A => kd x0 = 9 ∧ (((gI A x0 6) ≤ x2 → K A) ∧ (¬ (gI A x0 6) ≤ x2 → kd (gR A x0 14) = 51 ∧ vp_in (3840 + x2) (al (gR A x0 14)) ∧ vp_in ((x1 * 160) + x2) (al (gR A x0 14)) ∧ ∀ A22 : Mem, A22 = (sI A (gR A x0 14) (Int32.toNatClampNeg ((x1 * 160) + x2)) (gI A (gR A x0 14) (Int32.toNatClampNeg (3840 + x2)))) → wp_Mo_copyTo_c101 K n x0 x1 (x2 + 1) A22))
def wp_Mo_copyTo_c63 (K : Mem → Prop) : Nat → Nat → Int32 → Int32 → Mem → Prop
  | 0, _, _, _, _ => False
  | n + 1, x0, x1, x2, A => ((4 ≤ x2 → (∃ n9 : Nat, wp_Mo_copyTo_c101 K n9 x0 x1 0 A)) ∧ (¬ 4 ≤ x2 → kd x0 = 9 ∧ kd (gR A x0 13) = 51 ∧ vp_in (96 + x2) (al (gR A x0 13)) ∧ vp_in ((x1 * 4) + x2) (al (gR A x0 13)) ∧ ∀ A17 : Mem, A17 = (sI A (gR A x0 13) (Int32.toNatClampNeg ((x1 * 4) + x2)) ((gI A (gR A x0 13) (Int32.toNatClampNeg (96 + x2))) + (x1 * 160))) → wp_Mo_copyTo_c63 K n x0 x1 (x2 + 1) A17))
def wp_Mo_copyTo_c28 (K : Mem → Prop) : Nat → Nat → Int32 → Int32 → Mem → Prop
  | 0, _, _, _, _ => False
  | n + 1, x0, x1, x2, A => ((8 ≤ x2 → (∃ n9 : Nat, wp_Mo_copyTo_c63 K n9 x0 x1 0 A)) ∧ (¬ 8 ≤ x2 → kd x0 = 9 ∧ kd (gR A x0 12) = 51 ∧ vp_in (192 + x2) (al (gR A x0 12)) ∧ vp_in ((x1 * 8) + x2) (al (gR A x0 12)) ∧ wp_Mo_copyTo_c28 K n x0 x1 (x2 + 1) (sI A (gR A x0 12) (Int32.toNatClampNeg ((x1 * 8) + x2)) (gI A (gR A x0 12) (Int32.toNatClampNeg (192 + x2))))))
def wp_Mo_copyTo (o : Nat) (p1 : Int32) (A : Mem) (K : Mem → Prop) : Prop := kd o = 9 ∧ kd (gR A o 10) = 51 ∧ vp_in 24 (al (gR A o 10)) ∧ vp_in p1 (al (gR A o 10)) ∧ kd (gR (sI A (gR A o 10) (Int32.toNatClampNeg p1) (gI A (gR A o 10) (Int32.toNatClampNeg 24))) o 11) = 51 ∧ vp_in 24 (al (gR (sI A (gR A o 10) (Int32.toNatClampNeg p1) (gI A (gR A o 10) (Int32.toNatClampNeg 24))) o 11)) ∧ vp_in p1 (al (gR (sI A (gR A o 10) (Int32.toNatClampNeg p1) (gI A (gR A o 10) (Int32.toNatClampNeg 24))) o 11)) ∧ ∀ A8 : Mem, A8 = (sI (sI A (gR A o 10) (Int32.toNatClampNeg p1) (gI A (gR A o 10) (Int32.toNatClampNeg 24))) (gR (sI A (gR A o 10) (Int32.toNatClampNeg p1) (gI A (gR A o 10) (Int32.toNatClampNeg 24))) o 11) (Int32.toNatClampNeg p1) (gI (sI A (gR A o 10) (Int32.toNatClampNeg p1) (gI A (gR A o 10) (Int32.toNatClampNeg 24))) (gR (sI A (gR A o 10) (Int32.toNatClampNeg p1) (gI A (gR A o 10) (Int32.toNatClampNeg 24))) o 11) (Int32.toNatClampNeg 24))) → (∃ n9 : Nat, wp_Mo_copyTo_c28 K n9 o p1 0 A8)
set_option maxRecDepth 100000 in
set_option maxHeartbeats 4000000 in
theorem k_Mo_copyTo_c101 {X : CXT} {E : EVT} {K : Mem → Prop} (hX : Gd X E "BasicMachineModel" prog_14_method_42_code) (hR : Rm X 0 0) (hN : xnL X = 3) (hQ : QV X E K) : ∀ (n : Nat) (x0 : Nat) (x1 : Int32) (x2 : Int32) (A : Mem), wp_Mo_copyTo_c101 K n x0 x1 x2 A → G X E A 101 [(0, cr E x0), (1, .int (x1)), (2, .int (x2))] [] := by
  intro n
  induction n with
  | zero => intro x0 x1 x2 A h; exact h.elim
  | succ n ih =>
    intro x0 x1 x2 A h
    rw [wp_Mo_copyTo_c101] at h
    refine g_iload_n (pc := 101) hX d_Mo_copyTo_101 rfl 2 rfl ?_
    refine g_aload_n (pc := 102) hX d_Mo_copyTo_102 rfl 0 rfl ?_
    obtain ⟨f18, h⟩ := h
    refine g_getI (pc := 103) hX fl_Mo_28 rfl f18 d_Mo_copyTo_103 ?_
    refine g_icmp_ge (pc := 106) (tgt := 137) hX d_Mo_copyTo_106 (by decide) (fun q => ?_) (fun q => ?_)
    · have h := h.1 q
      exact g_vret hX hQ h d_Mo_copyTo_137
    · have h := h.2 q
      refine g_aload_n (pc := 109) hX d_Mo_copyTo_109 rfl 0 rfl ?_
      refine g_getR (pc := 110) hX fl_Mo_55 rfl f18 d_Mo_copyTo_110 ?_
      refine g_iload_n (pc := 113) hX d_Mo_copyTo_113 rfl 1 rfl ?_
      refine g_sipush (pc := 114) (v := 160) hX d_Mo_copyTo_114 (by decide) ?_
      refine g_imul (pc := 117) hX d_Mo_copyTo_117 ?_
      refine g_iload_n (pc := 118) hX d_Mo_copyTo_118 rfl 2 rfl ?_
      refine g_iadd (pc := 119) hX d_Mo_copyTo_119 ?_
      refine g_aload_n (pc := 120) hX d_Mo_copyTo_120 rfl 0 rfl ?_
      refine g_getR (pc := 121) hX fl_Mo_55 rfl f18 d_Mo_copyTo_121 ?_
      refine g_sipush (pc := 124) (v := 3840) hX d_Mo_copyTo_124 (by decide) ?_
      refine g_iload_n (pc := 127) hX d_Mo_copyTo_127 rfl 2 rfl ?_
      refine g_iadd (pc := 128) hX d_Mo_copyTo_128 ?_
      obtain ⟨f19, h⟩ := h
      obtain ⟨f20, h⟩ := h
      refine g_iaload (pc := 129) hX f19 f20 d_Mo_copyTo_129 ?_
      obtain ⟨f21, h⟩ := h
      refine g_iastore (pc := 130) hX f19 f21 d_Mo_copyTo_130 ?_
      refine g_nm (fun A22 eA22 => ?_)
      have h := h A22 eA22
      refine g_iinc (pc := 131) (v := (x2 + 1)) (lv0 := [(1, .int (x1)), (0, cr E x0)]) hX d_Mo_copyTo_131 2 rfl rfl (by rw [hN]; decide) (g_st1b (ks := [1, 0]) rfl rfl rfl rfl) ?_
      refine g_goto (pc := 134) (tgt := 101) hX d_Mo_copyTo_134 (by decide) ?_
      refine g_sub [2, 1, 0] rfl ?_
      exact ih _ _ _ _ h
set_option maxRecDepth 100000 in
set_option maxHeartbeats 4000000 in
theorem k_Mo_copyTo_c63 {X : CXT} {E : EVT} {K : Mem → Prop} (hX : Gd X E "BasicMachineModel" prog_14_method_42_code) (hR : Rm X 0 0) (hN : xnL X = 3) (hQ : QV X E K) : ∀ (n : Nat) (x0 : Nat) (x1 : Int32) (x2 : Int32) (A : Mem), wp_Mo_copyTo_c63 K n x0 x1 x2 A → G X E A 63 [(0, cr E x0), (1, .int (x1)), (2, .int (x2))] [] := by
  intro n
  induction n with
  | zero => intro x0 x1 x2 A h; exact h.elim
  | succ n ih =>
    intro x0 x1 x2 A h
    rw [wp_Mo_copyTo_c63] at h
    refine g_iload_n (pc := 63) hX d_Mo_copyTo_63 rfl 2 rfl ?_
    refine g_iconst (pc := 64) (v := 4) hX d_Mo_copyTo_64 (by decide) ?_
    refine g_icmp_ge (pc := 65) (tgt := 99) hX d_Mo_copyTo_65 (by decide) (fun q => ?_) (fun q => ?_)
    · have h := h.1 q
      refine g_iconst (pc := 99) (v := 0) hX d_Mo_copyTo_99 (by decide) ?_
      refine g_istore_n (pc := 100) (lv0 := [(1, .int (x1)), (0, cr E x0)]) hX d_Mo_copyTo_100 rfl (by rw [hN]; decide) (g_st1b (ks := [1, 0]) rfl rfl rfl rfl) ?_
      refine g_sub [2, 1, 0] rfl ?_
      obtain ⟨n9, h⟩ := h
      exact k_Mo_copyTo_c101 hX hR hN hQ n9 _ _ _ _ h
    · have h := h.2 q
      refine g_aload_n (pc := 68) hX d_Mo_copyTo_68 rfl 0 rfl ?_
      obtain ⟨f13, h⟩ := h
      refine g_getR (pc := 69) hX fl_Mo_52 rfl f13 d_Mo_copyTo_69 ?_
      refine g_iload_n (pc := 72) hX d_Mo_copyTo_72 rfl 1 rfl ?_
      refine g_iconst (pc := 73) (v := 4) hX d_Mo_copyTo_73 (by decide) ?_
      refine g_imul (pc := 74) hX d_Mo_copyTo_74 ?_
      refine g_iload_n (pc := 75) hX d_Mo_copyTo_75 rfl 2 rfl ?_
      refine g_iadd (pc := 76) hX d_Mo_copyTo_76 ?_
      refine g_aload_n (pc := 77) hX d_Mo_copyTo_77 rfl 0 rfl ?_
      refine g_getR (pc := 78) hX fl_Mo_52 rfl f13 d_Mo_copyTo_78 ?_
      refine g_bipush (pc := 81) (v := 96) hX d_Mo_copyTo_81 (by decide) ?_
      refine g_iload_n (pc := 83) hX d_Mo_copyTo_83 rfl 2 rfl ?_
      refine g_iadd (pc := 84) hX d_Mo_copyTo_84 ?_
      obtain ⟨f14, h⟩ := h
      obtain ⟨f15, h⟩ := h
      refine g_iaload (pc := 85) hX f14 f15 d_Mo_copyTo_85 ?_
      refine g_iload_n (pc := 86) hX d_Mo_copyTo_86 rfl 1 rfl ?_
      refine g_sipush (pc := 87) (v := 160) hX d_Mo_copyTo_87 (by decide) ?_
      refine g_imul (pc := 90) hX d_Mo_copyTo_90 ?_
      refine g_iadd (pc := 91) hX d_Mo_copyTo_91 ?_
      obtain ⟨f16, h⟩ := h
      refine g_iastore (pc := 92) hX f14 f16 d_Mo_copyTo_92 ?_
      refine g_nm (fun A17 eA17 => ?_)
      have h := h A17 eA17
      refine g_iinc (pc := 93) (v := (x2 + 1)) (lv0 := [(1, .int (x1)), (0, cr E x0)]) hX d_Mo_copyTo_93 2 rfl rfl (by rw [hN]; decide) (g_st1b (ks := [1, 0]) rfl rfl rfl rfl) ?_
      refine g_goto (pc := 96) (tgt := 63) hX d_Mo_copyTo_96 (by decide) ?_
      refine g_sub [2, 1, 0] rfl ?_
      exact ih _ _ _ _ h
set_option maxRecDepth 100000 in
set_option maxHeartbeats 4000000 in
theorem k_Mo_copyTo_c28 {X : CXT} {E : EVT} {K : Mem → Prop} (hX : Gd X E "BasicMachineModel" prog_14_method_42_code) (hR : Rm X 0 0) (hN : xnL X = 3) (hQ : QV X E K) : ∀ (n : Nat) (x0 : Nat) (x1 : Int32) (x2 : Int32) (A : Mem), wp_Mo_copyTo_c28 K n x0 x1 x2 A → G X E A 28 [(0, cr E x0), (1, .int (x1)), (2, .int (x2))] [] := by
  intro n
  induction n with
  | zero => intro x0 x1 x2 A h; exact h.elim
  | succ n ih =>
    intro x0 x1 x2 A h
    rw [wp_Mo_copyTo_c28] at h
    refine g_iload_n (pc := 28) hX d_Mo_copyTo_28 rfl 2 rfl ?_
    refine g_bipush (pc := 29) (v := 8) hX d_Mo_copyTo_29 (by decide) ?_
    refine g_icmp_ge (pc := 31) (tgt := 61) hX d_Mo_copyTo_31 (by decide) (fun q => ?_) (fun q => ?_)
    · have h := h.1 q
      refine g_iconst (pc := 61) (v := 0) hX d_Mo_copyTo_61 (by decide) ?_
      refine g_istore_n (pc := 62) (lv0 := [(1, .int (x1)), (0, cr E x0)]) hX d_Mo_copyTo_62 rfl (by rw [hN]; decide) (g_st1b (ks := [1, 0]) rfl rfl rfl rfl) ?_
      refine g_sub [2, 1, 0] rfl ?_
      obtain ⟨n9, h⟩ := h
      exact k_Mo_copyTo_c63 hX hR hN hQ n9 _ _ _ _ h
    · have h := h.2 q
      refine g_aload_n (pc := 34) hX d_Mo_copyTo_34 rfl 0 rfl ?_
      obtain ⟨f9, h⟩ := h
      refine g_getR (pc := 35) hX fl_Mo_49 rfl f9 d_Mo_copyTo_35 ?_
      refine g_iload_n (pc := 38) hX d_Mo_copyTo_38 rfl 1 rfl ?_
      refine g_bipush (pc := 39) (v := 8) hX d_Mo_copyTo_39 (by decide) ?_
      refine g_imul (pc := 41) hX d_Mo_copyTo_41 ?_
      refine g_iload_n (pc := 42) hX d_Mo_copyTo_42 rfl 2 rfl ?_
      refine g_iadd (pc := 43) hX d_Mo_copyTo_43 ?_
      refine g_aload_n (pc := 44) hX d_Mo_copyTo_44 rfl 0 rfl ?_
      refine g_getR (pc := 45) hX fl_Mo_49 rfl f9 d_Mo_copyTo_45 ?_
      refine g_sipush (pc := 48) (v := 192) hX d_Mo_copyTo_48 (by decide) ?_
      refine g_iload_n (pc := 51) hX d_Mo_copyTo_51 rfl 2 rfl ?_
      refine g_iadd (pc := 52) hX d_Mo_copyTo_52 ?_
      obtain ⟨f10, h⟩ := h
      obtain ⟨f11, h⟩ := h
      refine g_iaload (pc := 53) hX f10 f11 d_Mo_copyTo_53 ?_
      obtain ⟨f12, h⟩ := h
      refine g_iastore (pc := 54) hX f10 f12 d_Mo_copyTo_54 ?_
      refine g_iinc (pc := 55) (v := (x2 + 1)) (lv0 := [(1, .int (x1)), (0, cr E x0)]) hX d_Mo_copyTo_55 2 rfl rfl (by rw [hN]; decide) (g_st1b (ks := [1, 0]) rfl rfl rfl rfl) ?_
      refine g_goto (pc := 58) (tgt := 28) hX d_Mo_copyTo_58 (by decide) ?_
      refine g_sub [2, 1, 0] rfl ?_
      exact ih _ _ _ _ h
set_option maxRecDepth 100000 in
set_option maxHeartbeats 4000000 in
theorem c_Mo_copyTo (o : Nat) (p1 : Int32) (A : Mem) (K : Mem → Prop) (h : wp_Mo_copyTo o p1 A K) : CtV y_Mo_copyTo prog_14_method_42_code 3 0 0 (fun E => [cr E o, .int (p1)]) A K := by
  refine ctV_of "BasicMachineModel" (by decide) rfl (fun E => [(0, cr E o), (1, .int (p1))]) (fun E => by simp [lg_sl, cr_cat, ca_i, ca_l, ca_d]) (fun E => by simp [lv_args, cr_cat, ca_i, ca_l, ca_d]) (fun X E hX hR hN hQ => ?_)
  unfold wp_Mo_copyTo at h
  refine g_aload_n (pc := 0) hX d_Mo_copyTo_0 rfl 0 rfl ?_
  obtain ⟨f1, h⟩ := h
  refine g_getR (pc := 1) hX fl_Mo_42 rfl f1 d_Mo_copyTo_1 ?_
  refine g_iload_n (pc := 4) hX d_Mo_copyTo_4 rfl 1 rfl ?_
  refine g_aload_n (pc := 5) hX d_Mo_copyTo_5 rfl 0 rfl ?_
  refine g_getR (pc := 6) hX fl_Mo_42 rfl f1 d_Mo_copyTo_6 ?_
  refine g_bipush (pc := 9) (v := 24) hX d_Mo_copyTo_9 (by decide) ?_
  obtain ⟨f2, h⟩ := h
  obtain ⟨f3, h⟩ := h
  refine g_iaload (pc := 11) hX f2 f3 d_Mo_copyTo_11 ?_
  obtain ⟨f4, h⟩ := h
  refine g_iastore (pc := 12) hX f2 f4 d_Mo_copyTo_12 ?_
  refine g_aload_n (pc := 13) hX d_Mo_copyTo_13 rfl 0 rfl ?_
  refine g_getR (pc := 14) hX fl_Mo_46 rfl f1 d_Mo_copyTo_14 ?_
  refine g_iload_n (pc := 17) hX d_Mo_copyTo_17 rfl 1 rfl ?_
  refine g_aload_n (pc := 18) hX d_Mo_copyTo_18 rfl 0 rfl ?_
  refine g_getR (pc := 19) hX fl_Mo_46 rfl f1 d_Mo_copyTo_19 ?_
  refine g_bipush (pc := 22) (v := 24) hX d_Mo_copyTo_22 (by decide) ?_
  obtain ⟨f5, h⟩ := h
  obtain ⟨f6, h⟩ := h
  refine g_iaload (pc := 24) hX f5 f6 d_Mo_copyTo_24 ?_
  obtain ⟨f7, h⟩ := h
  refine g_iastore (pc := 25) hX f5 f7 d_Mo_copyTo_25 ?_
  refine g_nm (fun A8 eA8 => ?_)
  have h := h A8 eA8
  refine g_iconst (pc := 26) (v := 0) hX d_Mo_copyTo_26 (by decide) ?_
  refine g_istore_n (pc := 27) (lv0 := [(1, .int (p1)), (0, cr E o)]) hX d_Mo_copyTo_27 rfl (by rw [hN]; decide) (g_st1b (ks := [1, 0]) rfl rfl rfl rfl) ?_
  refine g_sub [2, 1, 0] rfl ?_
  obtain ⟨n9, h⟩ := h
  exact k_Mo_copyTo_c28 hX hR hN hQ n9 _ _ _ _ h
def wp_Mo_lines_c4 (K : Int32 → Mem → Prop) : Nat → Nat → Int32 → Int32 → Mem → Prop
  | 0, _, _, _, _ => False
  | n + 1, x0, x1, x2, A => ((24 ≤ x2 → K x1 A) ∧ (¬ 24 ≤ x2 → kd x0 = 9 ∧ kd (gR A x0 10) = 51 ∧ vp_in x2 (al (gR A x0 10)) ∧ (((gI A (gR A x0 10) (Int32.toNatClampNeg x2)) = 0 → wp_Mo_lines_c4 K n x0 x1 (x2 + 1) A) ∧ (¬ (gI A (gR A x0 10) (Int32.toNatClampNeg x2)) = 0 → wp_Mo_lines_c4 K n x0 (x1 + 1) (x2 + 1) A))))
def wp_Mo_lines (o : Nat) (A : Mem) (K : Int32 → Mem → Prop) : Prop := (∃ n9 : Nat, wp_Mo_lines_c4 K n9 o 0 0 A)
set_option maxRecDepth 100000 in
set_option maxHeartbeats 4000000 in
theorem k_Mo_lines_c4 {X : CXT} {E : EVT} {K : Int32 → Mem → Prop} (hX : Gd X E "BasicMachineModel" prog_14_method_44_code) (hR : Rm X 0 0) (hN : xnL X = 3) (hQ : QI X E K) : ∀ (n : Nat) (x0 : Nat) (x1 : Int32) (x2 : Int32) (A : Mem), wp_Mo_lines_c4 K n x0 x1 x2 A → G X E A 4 [(0, cr E x0), (1, .int (x1)), (2, .int (x2))] [] := by
  intro n
  induction n with
  | zero => intro x0 x1 x2 A h; exact h.elim
  | succ n ih =>
    intro x0 x1 x2 A h
    rw [wp_Mo_lines_c4] at h
    refine g_iload_n (pc := 4) hX d_Mo_lines_4 rfl 2 rfl ?_
    refine g_bipush (pc := 5) (v := 24) hX d_Mo_lines_5 (by decide) ?_
    refine g_icmp_ge (pc := 7) (tgt := 28) hX d_Mo_lines_7 (by decide) (fun q => ?_) (fun q => ?_)
    · have h := h.1 q
      refine g_iload_n (pc := 28) hX d_Mo_lines_28 rfl 1 rfl ?_
      exact g_iret hX hQ h d_Mo_lines_29
    · have h := h.2 q
      refine g_aload_n (pc := 10) hX d_Mo_lines_10 rfl 0 rfl ?_
      obtain ⟨f1, h⟩ := h
      refine g_getR (pc := 11) hX fl_Mo_42 rfl f1 d_Mo_lines_11 ?_
      refine g_iload_n (pc := 14) hX d_Mo_lines_14 rfl 2 rfl ?_
      obtain ⟨f2, h⟩ := h
      obtain ⟨f3, h⟩ := h
      refine g_iaload (pc := 15) hX f2 f3 d_Mo_lines_15 ?_
      refine g_if_eq (pc := 16) (tgt := 22) hX d_Mo_lines_16 (by decide) (fun q => ?_) (fun q => ?_)
      · have h := h.1 q
        refine g_iinc (pc := 22) (v := (x2 + 1)) (lv0 := [(1, .int (x1)), (0, cr E x0)]) hX d_Mo_lines_22 2 rfl rfl (by rw [hN]; decide) (g_st1b (ks := [1, 0]) rfl rfl rfl rfl) ?_
        refine g_goto (pc := 25) (tgt := 4) hX d_Mo_lines_25 (by decide) ?_
        refine g_sub [2, 1, 0] rfl ?_
        exact ih _ _ _ _ h
      · have h := h.2 q
        refine g_iinc (pc := 19) (v := (x1 + 1)) (lv0 := [(0, cr E x0), (2, .int (x2))]) hX d_Mo_lines_19 1 rfl rfl (by rw [hN]; decide) (g_st1b (ks := [0, 2]) rfl (cr_cat _ _) rfl rfl) ?_
        refine g_iinc (pc := 22) (v := (x2 + 1)) (lv0 := [(1, .int ((x1 + 1))), (0, cr E x0)]) hX d_Mo_lines_22 2 rfl rfl (by rw [hN]; decide) (g_st1b (ks := [0, 1]) rfl rfl rfl rfl) ?_
        refine g_goto (pc := 25) (tgt := 4) hX d_Mo_lines_25 (by decide) ?_
        refine g_sub [2, 1, 0] rfl ?_
        exact ih _ _ _ _ h
set_option maxRecDepth 100000 in
set_option maxHeartbeats 4000000 in
theorem c_Mo_lines (o : Nat) (A : Mem) (K : Int32 → Mem → Prop) (h : wp_Mo_lines o A K) : CtI y_Mo_lines prog_14_method_44_code 3 0 0 (fun E => [cr E o]) A K := by
  refine ctI_of "BasicMachineModel" (by decide) rfl (fun E => [(0, cr E o)]) (fun E => by simp [lg_sl, cr_cat, ca_i, ca_l, ca_d]) (fun E => by simp [lv_args, cr_cat, ca_i, ca_l, ca_d]) (fun X E hX hR hN hQ => ?_)
  unfold wp_Mo_lines at h
  refine g_iconst (pc := 0) (v := 0) hX d_Mo_lines_0 (by decide) ?_
  refine g_istore_n (pc := 1) (lv0 := [(0, cr E o)]) hX d_Mo_lines_1 rfl (by rw [hN]; decide) (g_st1b (ks := [0]) rfl (cr_cat _ _) rfl rfl) ?_
  refine g_iconst (pc := 2) (v := 0) hX d_Mo_lines_2 (by decide) ?_
  refine g_istore_n (pc := 3) (lv0 := [(1, .int (0)), (0, cr E o)]) hX d_Mo_lines_3 rfl (by rw [hN]; decide) (g_st1b (ks := [0, 1]) rfl rfl rfl rfl) ?_
  refine g_sub [2, 1, 0] rfl ?_
  obtain ⟨n9, h⟩ := h
  exact k_Mo_lines_c4 hX hR hN hQ n9 _ _ _ _ h
def wp_Mo_errorAt (o : Nat) (A : Mem) (K : Int32 → Mem → Prop) : Prop := kd o = 9 ∧ wp_Mo_fine o (gI A o 3) A (fun (r3 : Int32) (A2 : Mem) => K r3 A2)
set_option maxRecDepth 100000 in
set_option maxHeartbeats 4000000 in
theorem c_Mo_errorAt (o : Nat) (A : Mem) (K : Int32 → Mem → Prop) (h : wp_Mo_errorAt o A K) : CtI y_Mo_errorAt prog_14_method_45_code 1 1 21 (fun E => [cr E o]) A K := by
  refine ctI_of "BasicMachineModel" (by decide) rfl (fun E => [(0, cr E o)]) (fun E => by simp [lg_sl, cr_cat, ca_i, ca_l, ca_d]) (fun E => by simp [lv_args, cr_cat, ca_i, ca_l, ca_d]) (fun X E hX hR hN hQ => ?_)
  unfold wp_Mo_errorAt at h
  refine g_aload_n (pc := 0) hX d_Mo_errorAt_0 rfl 0 rfl ?_
  refine g_aload_n (pc := 1) hX d_Mo_errorAt_1 rfl 0 rfl ?_
  obtain ⟨f1, h⟩ := h
  refine g_getI (pc := 2) hX fl_Mo_19 rfl f1 d_Mo_errorAt_2 ?_
  refine g_callV_I (pc := 5) hX hR f1 cf9 rfl lk_Mo_153 mf_Mo_fine (c_Mo_fine _ _ _ _ h) rfl rfl rfl ⟨by decide, by decide⟩ (cat_sum _ (Nat.le_of_ble_eq_true rfl)) d_Mo_errorAt_5 (fun r3 A2 h => ?_)
  exact g_iret hX hQ h d_Mo_errorAt_8
def wp_Mo_wipe_c7 (K : Int32 → Mem → Prop) : Nat → Nat → Int32 → Int32 → Mem → Prop
  | 0, _, _, _, _ => False
  | n + 1, x0, x1, x2, A => ((24 ≤ x2 → kd x0 = 9 ∧ wp_Mo_fine x0 x1 A (fun (r5 : Int32) (A4 : Mem) => K r5 A4)) ∧ (¬ 24 ≤ x2 → kd x0 = 9 ∧ kd (gR A x0 10) = 51 ∧ vp_in x2 (al (gR A x0 10)) ∧ wp_Mo_wipe_c7 K n x0 x1 (x2 + 1) (sI A (gR A x0 10) (Int32.toNatClampNeg x2) 0)))
def wp_Mo_wipe (o : Nat) (A : Mem) (K : Int32 → Mem → Prop) : Prop := kd o = 9 ∧ wp_Mo_lines o A (fun (r2 : Int32) (A1 : Mem) => (∃ n9 : Nat, wp_Mo_wipe_c7 K n9 o r2 0 A1))
set_option maxRecDepth 100000 in
set_option maxHeartbeats 4000000 in
theorem k_Mo_wipe_c7 {X : CXT} {E : EVT} {K : Int32 → Mem → Prop} (hX : Gd X E "BasicMachineModel" prog_14_method_46_code) (hR : Rm X 1 22) (hN : xnL X = 3) (hQ : QI X E K) : ∀ (n : Nat) (x0 : Nat) (x1 : Int32) (x2 : Int32) (A : Mem), wp_Mo_wipe_c7 K n x0 x1 x2 A → G X E A 7 [(0, cr E x0), (1, .int (x1)), (2, .int (x2))] [] := by
  intro n
  induction n with
  | zero => intro x0 x1 x2 A h; exact h.elim
  | succ n ih =>
    intro x0 x1 x2 A h
    rw [wp_Mo_wipe_c7] at h
    refine g_iload_n (pc := 7) hX d_Mo_wipe_7 rfl 2 rfl ?_
    refine g_bipush (pc := 8) (v := 24) hX d_Mo_wipe_8 (by decide) ?_
    refine g_icmp_ge (pc := 10) (tgt := 26) hX d_Mo_wipe_10 (by decide) (fun q => ?_) (fun q => ?_)
    · have h := h.1 q
      refine g_aload_n (pc := 26) hX d_Mo_wipe_26 rfl 0 rfl ?_
      refine g_iload_n (pc := 27) hX d_Mo_wipe_27 rfl 1 rfl ?_
      obtain ⟨f6, h⟩ := h
      refine g_callV_I (pc := 28) hX hR f6 cf9 rfl lk_Mo_153 mf_Mo_fine (c_Mo_fine _ _ _ _ h) rfl rfl rfl ⟨by decide, by decide⟩ (cat_sum _ (Nat.le_of_ble_eq_true rfl)) d_Mo_wipe_28 (fun r5 A4 h => ?_)
      exact g_iret hX hQ h d_Mo_wipe_31
    · have h := h.2 q
      refine g_aload_n (pc := 13) hX d_Mo_wipe_13 rfl 0 rfl ?_
      obtain ⟨f7, h⟩ := h
      refine g_getR (pc := 14) hX fl_Mo_42 rfl f7 d_Mo_wipe_14 ?_
      refine g_iload_n (pc := 17) hX d_Mo_wipe_17 rfl 2 rfl ?_
      refine g_iconst (pc := 18) (v := 0) hX d_Mo_wipe_18 (by decide) ?_
      obtain ⟨f8, h⟩ := h
      obtain ⟨f9, h⟩ := h
      refine g_iastore (pc := 19) hX f8 f9 d_Mo_wipe_19 ?_
      refine g_iinc (pc := 20) (v := (x2 + 1)) (lv0 := [(1, .int (x1)), (0, cr E x0)]) hX d_Mo_wipe_20 2 rfl rfl (by rw [hN]; decide) (g_st1b (ks := [1, 0]) rfl rfl rfl rfl) ?_
      refine g_goto (pc := 23) (tgt := 7) hX d_Mo_wipe_23 (by decide) ?_
      refine g_sub [2, 1, 0] rfl ?_
      exact ih _ _ _ _ h
set_option maxRecDepth 100000 in
set_option maxHeartbeats 4000000 in
theorem c_Mo_wipe (o : Nat) (A : Mem) (K : Int32 → Mem → Prop) (h : wp_Mo_wipe o A K) : CtI y_Mo_wipe prog_14_method_46_code 3 1 22 (fun E => [cr E o]) A K := by
  refine ctI_of "BasicMachineModel" (by decide) rfl (fun E => [(0, cr E o)]) (fun E => by simp [lg_sl, cr_cat, ca_i, ca_l, ca_d]) (fun E => by simp [lv_args, cr_cat, ca_i, ca_l, ca_d]) (fun X E hX hR hN hQ => ?_)
  unfold wp_Mo_wipe at h
  refine g_aload_n (pc := 0) hX d_Mo_wipe_0 rfl 0 rfl ?_
  obtain ⟨f3, h⟩ := h
  refine g_callV_I (pc := 1) hX hR f3 cf9 rfl lk_Mo_332 mf_Mo_lines (c_Mo_lines _ _ _ h) rfl rfl rfl ⟨by decide, by decide⟩ (cat_sum _ (Nat.le_of_ble_eq_true rfl)) d_Mo_wipe_1 (fun r2 A1 h => ?_)
  refine g_istore_n (pc := 4) (lv0 := [(0, cr E o)]) hX d_Mo_wipe_4 rfl (by rw [hN]; decide) (g_st1b (ks := [0]) rfl (cr_cat _ _) rfl rfl) ?_
  refine g_iconst (pc := 5) (v := 0) hX d_Mo_wipe_5 (by decide) ?_
  refine g_istore_n (pc := 6) (lv0 := [(1, .int (r2)), (0, cr E o)]) hX d_Mo_wipe_6 rfl (by rw [hN]; decide) (g_st1b (ks := [0, 1]) rfl rfl rfl rfl) ?_
  refine g_sub [2, 1, 0] rfl ?_
  obtain ⟨n9, h⟩ := h
  exact k_Mo_wipe_c7 hX hR hN hQ n9 _ _ _ _ h
def wp_Mo_kept (o : Nat) (p1 : UInt64) (A : Mem) (K : UInt64 → Mem → Prop) : Prop := ((0 < (Op.cmpValue (FP.dcmp p1 4877398396442247168) .l) → kd o = 9 ∧ K FP.dconst0 (sI A o 27 4)) ∧ (¬ 0 < (Op.cmpValue (FP.dcmp p1 4877398396442247168) .l) → ((0 ≤ (Op.cmpValue (FP.dcmp p1 14100770433297022976) .g) → K p1 A) ∧ (¬ 0 ≤ (Op.cmpValue (FP.dcmp p1 14100770433297022976) .g) → kd o = 9 ∧ K FP.dconst0 (sI A o 27 4)))))
set_option maxRecDepth 100000 in
set_option maxHeartbeats 4000000 in
theorem c_Mo_kept (o : Nat) (p1 : UInt64) (A : Mem) (K : UInt64 → Mem → Prop) (h : wp_Mo_kept o p1 A K) : CtD y_Mo_kept prog_14_method_47_code 3 0 0 (fun E => [cr E o, .double (p1)]) A K := by
  refine ctD_of "BasicMachineModel" (by decide) rfl (fun E => [(0, cr E o), (1, .double (p1))]) (fun E => by simp [lg_sl, cr_cat, ca_i, ca_l, ca_d]) (fun E => by simp [lv_args, cr_cat, ca_i, ca_l, ca_d]) (fun X E hX hR hN hQ => ?_)
  unfold wp_Mo_kept at h
  refine g_dload_n (pc := 0) hX d_Mo_kept_0 rfl 1 rfl ?_
  refine g_ldc2d (pc := 1) hX d_Mo_kept_1 cn_Mo_338 ?_
  refine g_dcmp (pc := 4) hX d_Mo_kept_4 ?_
  refine g_if_gt (pc := 5) (tgt := 16) hX d_Mo_kept_5 (by decide) (fun q => ?_) (fun q => ?_)
  · have h := h.1 q
    refine g_aload_n (pc := 16) hX d_Mo_kept_16 rfl 0 rfl ?_
    refine g_iconst (pc := 17) (v := 4) hX d_Mo_kept_17 (by decide) ?_
    obtain ⟨f1, h⟩ := h
    refine g_putI (pc := 18) hX fl_Mo_94 rfl rfl rfl f1 d_Mo_kept_18 ?_
    refine g_dconst0 (pc := 21) hX d_Mo_kept_21 ?_
    exact g_dret hX hQ h d_Mo_kept_22
  · have h := h.2 q
    refine g_dload_n (pc := 8) hX d_Mo_kept_8 rfl 1 rfl ?_
    refine g_ldc2d (pc := 9) hX d_Mo_kept_9 cn_Mo_340 ?_
    refine g_dcmp (pc := 12) hX d_Mo_kept_12 ?_
    refine g_if_ge (pc := 13) (tgt := 23) hX d_Mo_kept_13 (by decide) (fun q => ?_) (fun q => ?_)
    · have h := h.1 q
      refine g_dload_n (pc := 23) hX d_Mo_kept_23 rfl 1 rfl ?_
      exact g_dret hX hQ h d_Mo_kept_24
    · have h := h.2 q
      refine g_aload_n (pc := 16) hX d_Mo_kept_16 rfl 0 rfl ?_
      refine g_iconst (pc := 17) (v := 4) hX d_Mo_kept_17 (by decide) ?_
      obtain ⟨f2, h⟩ := h
      refine g_putI (pc := 18) hX fl_Mo_94 rfl rfl rfl f2 d_Mo_kept_18 ?_
      refine g_dconst0 (pc := 21) hX d_Mo_kept_21 ?_
      exact g_dret hX hQ h d_Mo_kept_22
def wp_Mo_divided (o : Nat) (p1 : UInt64) (p3 : UInt64) (A : Mem) (K : UInt64 → Mem → Prop) : Prop := ((¬ (Op.cmpValue (FP.dcmp p3 FP.dconst0) .l) = 0 → vf_n64 (FP.ddiv p1 p3) ∧ kd o = 9 ∧ wp_Mo_kept o (FP.ddiv p1 p3) A (fun (r3 : UInt64) (A2 : Mem) => K r3 A2)) ∧ ((Op.cmpValue (FP.dcmp p3 FP.dconst0) .l) = 0 → kd o = 9 ∧ K FP.dconst0 (sI A o 27 4)))
set_option maxRecDepth 100000 in
set_option maxHeartbeats 4000000 in
theorem c_Mo_divided (o : Nat) (p1 : UInt64) (p3 : UInt64) (A : Mem) (K : UInt64 → Mem → Prop) (h : wp_Mo_divided o p1 p3 A K) : CtD y_Mo_divided prog_14_method_48_code 5 1 22 (fun E => [cr E o, .double (p1), .double (p3)]) A K := by
  refine ctD_of "BasicMachineModel" (by decide) rfl (fun E => [(0, cr E o), (1, .double (p1)), (3, .double (p3))]) (fun E => by simp [lg_sl, cr_cat, ca_i, ca_l, ca_d]) (fun E => by simp [lv_args, cr_cat, ca_i, ca_l, ca_d]) (fun X E hX hR hN hQ => ?_)
  unfold wp_Mo_divided at h
  refine g_dload_n (pc := 0) hX d_Mo_divided_0 rfl 2 rfl ?_
  refine g_dconst0 (pc := 1) hX d_Mo_divided_1 ?_
  refine g_dcmp (pc := 2) hX d_Mo_divided_2 ?_
  refine g_if_ne (pc := 3) (tgt := 13) hX d_Mo_divided_3 (by decide) (fun q => ?_) (fun q => ?_)
  · have h := h.1 q
    refine g_aload_n (pc := 13) hX d_Mo_divided_13 rfl 0 rfl ?_
    refine g_dload_n (pc := 14) hX d_Mo_divided_14 rfl 1 rfl ?_
    refine g_dload_n (pc := 15) hX d_Mo_divided_15 rfl 2 rfl ?_
    obtain ⟨f1, h⟩ := h
    refine g_ddiv (pc := 16) hX d_Mo_divided_16 f1 ?_
    obtain ⟨f4, h⟩ := h
    refine g_callV_D (pc := 17) hX hR f4 cf9 rfl lk_Mo_342 mf_Mo_kept (c_Mo_kept _ _ _ _ h) rfl rfl rfl ⟨by decide, by decide⟩ (cat_sum _ (Nat.le_of_ble_eq_true rfl)) d_Mo_divided_17 (fun r3 A2 h => ?_)
    exact g_dret hX hQ h d_Mo_divided_20
  · have h := h.2 q
    refine g_aload_n (pc := 6) hX d_Mo_divided_6 rfl 0 rfl ?_
    refine g_iconst (pc := 7) (v := 4) hX d_Mo_divided_7 (by decide) ?_
    obtain ⟨f5, h⟩ := h
    refine g_putI (pc := 8) hX fl_Mo_94 rfl rfl rfl f5 d_Mo_divided_8 ?_
    refine g_dconst0 (pc := 11) hX d_Mo_divided_11 ?_
    exact g_dret hX hQ h d_Mo_divided_12
def wp_Mo_floor (o : Nat) (p1 : UInt64) (A : Mem) (K : UInt64 → Mem → Prop) : Prop := (((Op.cmpValue (FP.dcmp (FP.l2d (FP.d2l p1)) p1) .l) ≤ 0 → K (FP.l2d (FP.d2l p1)) A) ∧ (¬ (Op.cmpValue (FP.dcmp (FP.l2d (FP.d2l p1)) p1) .l) ≤ 0 → K (FP.l2d ((FP.d2l p1) - 1)) A))
set_option maxRecDepth 100000 in
set_option maxHeartbeats 4000000 in
theorem c_Mo_floor (o : Nat) (p1 : UInt64) (A : Mem) (K : UInt64 → Mem → Prop) (h : wp_Mo_floor o p1 A K) : CtD y_Mo_floor prog_14_method_49_code 5 0 0 (fun E => [cr E o, .double (p1)]) A K := by
  refine ctD_of "BasicMachineModel" (by decide) rfl (fun E => [(0, cr E o), (1, .double (p1))]) (fun E => by simp [lg_sl, cr_cat, ca_i, ca_l, ca_d]) (fun E => by simp [lv_args, cr_cat, ca_i, ca_l, ca_d]) (fun X E hX hR hN hQ => ?_)
  unfold wp_Mo_floor at h
  refine g_dload_n (pc := 0) hX d_Mo_floor_0 rfl 1 rfl ?_
  refine g_d2l (pc := 1) hX d_Mo_floor_1 ?_
  refine g_lstore_n (pc := 2) (lv0 := [(0, cr E o), (1, .double (p1))]) hX d_Mo_floor_2 rfl (by rw [hN]; decide) (g_st2 (ks := [0, 1]) rfl rfl) ?_
  refine g_lload_n (pc := 3) hX d_Mo_floor_3 rfl 0 rfl ?_
  refine g_l2d (pc := 4) hX d_Mo_floor_4 ?_
  refine g_dload_n (pc := 5) hX d_Mo_floor_5 rfl 2 rfl ?_
  refine g_dcmp (pc := 6) hX d_Mo_floor_6 ?_
  refine g_if_le (pc := 7) (tgt := 16) hX d_Mo_floor_7 (by decide) (fun q => ?_) (fun q => ?_)
  · have h := h.1 q
    refine g_lload_n (pc := 16) hX d_Mo_floor_16 rfl 0 rfl ?_
    refine g_l2d (pc := 17) hX d_Mo_floor_17 ?_
    exact g_dret hX hQ h d_Mo_floor_18
  · have h := h.2 q
    refine g_lload_n (pc := 10) hX d_Mo_floor_10 rfl 0 rfl ?_
    refine g_lconst (pc := 11) (v := 1) hX d_Mo_floor_11 (by decide) ?_
    refine g_lsub (pc := 12) hX d_Mo_floor_12 ?_
    refine g_goto (pc := 13) (tgt := 17) hX d_Mo_floor_13 (by decide) ?_
    refine g_l2d (pc := 17) hX d_Mo_floor_17 ?_
    exact g_dret hX hQ h d_Mo_floor_18
def wp_Mo_power_c82 (K : UInt64 → Mem → Prop) (x0 : Nat) (x5 : Int32) (x6 : UInt64) (A : Mem) : Prop := ((0 ≤ x5 → K x6 A) ∧ (¬ 0 ≤ x5 → kd x0 = 9 ∧ ((¬ (gI A x0 27) = 0 → K x6 A) ∧ ((gI A x0 27) = 0 → wp_Mo_divided x0 FP.dconst1 x6 A (fun (r10 : UInt64) (A9 : Mem) => K r10 A9)))))
def wp_Mo_power_c56 (J41 : Nat → UInt64 → Int32 → UInt64 → Int32 → Mem → Prop) (K : UInt64 → Mem → Prop) (x0 : Nat) (x1 : UInt64) (x5 : Int32) (x6 : UInt64) (x8 : Int32) (s0 : Int32) (s1 : Int32) (A : Mem) : Prop := ((s0 ≤ s1 → wp_Mo_power_c82 K x0 x5 x6 A) ∧ (¬ s0 ≤ s1 → kd x0 = 9 ∧ ((¬ (gI A x0 27) = 0 → wp_Mo_power_c82 K x0 x5 x6 A) ∧ ((gI A x0 27) = 0 → vf_n64 (FP.dmul x6 x1) ∧ wp_Mo_kept x0 (FP.dmul x6 x1) A (fun (r7 : UInt64) (A6 : Mem) => J41 x0 x1 x5 r7 (x8 + 1) A6)))))
def wp_Mo_power_c41 (K : UInt64 → Mem → Prop) : Nat → Nat → UInt64 → Int32 → UInt64 → Int32 → Mem → Prop
  | 0, _, _, _, _, _, _ => False
  | n + 1, x0, x1, x5, x6, x8, A => ((0 ≤ x5 → wp_Mo_power_c56 (wp_Mo_power_c41 K n) K x0 x1 x5 x6 x8 x5 x8 A) ∧ (¬ 0 ≤ x5 → wp_Mo_power_c56 (wp_Mo_power_c41 K n) K x0 x1 x5 x6 x8 (-x5) x8 A))
def wp_Mo_power (o : Nat) (p1 : UInt64) (p3 : UInt64) (A : Mem) (K : UInt64 → Mem → Prop) : Prop := (((Op.cmpValue (FP.dcmp p3 13849694754071117824) .g) < 0 → kd o = 9 ∧ K FP.dconst0 (sI A o 27 4)) ∧ (¬ (Op.cmpValue (FP.dcmp p3 13849694754071117824) .g) < 0 → ((0 < (Op.cmpValue (FP.dcmp p3 4626322717216342016) .l) → kd o = 9 ∧ K FP.dconst0 (sI A o 27 4)) ∧ (¬ 0 < (Op.cmpValue (FP.dcmp p3 4626322717216342016) .l) → (((Op.cmpValue (FP.dcmp (FP.l2d (FP.d2l p3)) p3) .l) = 0 → (∃ n9 : Nat, wp_Mo_power_c41 K n9 o p1 (FP.d2i p3) FP.dconst1 0 A)) ∧ (¬ (Op.cmpValue (FP.dcmp (FP.l2d (FP.d2l p3)) p3) .l) = 0 → kd o = 9 ∧ K FP.dconst0 (sI A o 27 4)))))))
set_option maxRecDepth 100000 in
set_option maxHeartbeats 4000000 in
theorem k_Mo_power_c82 {X : CXT} {E : EVT} {K : UInt64 → Mem → Prop} (hX : Gd X E "BasicMachineModel" prog_14_method_50_code) (hR : Rm X 2 46) (hN : xnL X = 9) (hQ : QD X E K) (x0 : Nat) (x5 : Int32) (x6 : UInt64) (A : Mem) (h : wp_Mo_power_c82 K x0 x5 x6 A) : G X E A 82 [(0, cr E x0), (5, .int (x5)), (6, .double (x6))] [] := by
  unfold wp_Mo_power_c82 at h
  refine g_iload (pc := 82) hX d_Mo_power_82 1 rfl ?_
  refine g_if_ge (pc := 84) (tgt := 104) hX d_Mo_power_84 (by decide) (fun q => ?_) (fun q => ?_)
  · have h := h.1 q
    refine g_dload (pc := 104) hX d_Mo_power_104 2 rfl ?_
    exact g_dret hX hQ h d_Mo_power_106
  · have h := h.2 q
    refine g_aload_n (pc := 87) hX d_Mo_power_87 rfl 0 rfl ?_
    obtain ⟨f8, h⟩ := h
    refine g_getI (pc := 88) hX fl_Mo_94 rfl f8 d_Mo_power_88 ?_
    refine g_if_ne (pc := 91) (tgt := 104) hX d_Mo_power_91 (by decide) (fun q => ?_) (fun q => ?_)
    · have h := h.1 q
      refine g_dload (pc := 104) hX d_Mo_power_104 2 rfl ?_
      exact g_dret hX hQ h d_Mo_power_106
    · have h := h.2 q
      refine g_aload_n (pc := 94) hX d_Mo_power_94 rfl 0 rfl ?_
      refine g_dconst1 (pc := 95) hX d_Mo_power_95 ?_
      refine g_dload (pc := 96) hX d_Mo_power_96 2 rfl ?_
      refine g_callV_D (pc := 98) hX hR f8 cf9 rfl lk_Mo_350 mf_Mo_divided (c_Mo_divided _ _ _ _ _ h) rfl rfl rfl ⟨by decide, by decide⟩ (cat_sum _ (Nat.le_of_ble_eq_true rfl)) d_Mo_power_98 (fun r10 A9 h => ?_)
      refine g_goto (pc := 101) (tgt := 106) hX d_Mo_power_101 (by decide) ?_
      exact g_dret hX hQ h d_Mo_power_106
set_option maxRecDepth 100000 in
set_option maxHeartbeats 4000000 in
theorem k_Mo_power_c56 {X : CXT} {E : EVT} {K : UInt64 → Mem → Prop} {J41 : Nat → UInt64 → Int32 → UInt64 → Int32 → Mem → Prop} (hX : Gd X E "BasicMachineModel" prog_14_method_50_code) (hR : Rm X 2 46) (hN : xnL X = 9) (hQ : QD X E K) (hJ41 : ∀ (x0 : Nat) (x1 : UInt64) (x5 : Int32) (x6 : UInt64) (x8 : Int32) (A : Mem), J41 x0 x1 x5 x6 x8 A → G X E A 41 [(0, cr E x0), (1, .double (x1)), (5, .int (x5)), (6, .double (x6)), (8, .int (x8))] []) (x0 : Nat) (x1 : UInt64) (x5 : Int32) (x6 : UInt64) (x8 : Int32) (s0 : Int32) (s1 : Int32) (A : Mem) (h : wp_Mo_power_c56 J41 K x0 x1 x5 x6 x8 s0 s1 A) : G X E A 56 [(0, cr E x0), (1, .double (x1)), (5, .int (x5)), (6, .double (x6)), (8, .int (x8))] [.int (s0), .int (s1)] := by
  unfold wp_Mo_power_c56 at h
  refine g_icmp_ge (pc := 56) (tgt := 82) hX d_Mo_power_56 (by decide) (fun q => ?_) (fun q => ?_)
  · have h := h.1 q
    refine g_sub [0, 2, 3] rfl ?_
    exact k_Mo_power_c82 hX hR hN hQ _ _ _ _ h
  · have h := h.2 q
    refine g_aload_n (pc := 59) hX d_Mo_power_59 rfl 0 rfl ?_
    obtain ⟨f4, h⟩ := h
    refine g_getI (pc := 60) hX fl_Mo_94 rfl f4 d_Mo_power_60 ?_
    refine g_if_ne (pc := 63) (tgt := 82) hX d_Mo_power_63 (by decide) (fun q => ?_) (fun q => ?_)
    · have h := h.1 q
      refine g_sub [0, 2, 3] rfl ?_
      exact k_Mo_power_c82 hX hR hN hQ _ _ _ _ h
    · have h := h.2 q
      refine g_aload_n (pc := 66) hX d_Mo_power_66 rfl 0 rfl ?_
      refine g_dload (pc := 67) hX d_Mo_power_67 3 rfl ?_
      refine g_dload_n (pc := 69) hX d_Mo_power_69 rfl 1 rfl ?_
      obtain ⟨f5, h⟩ := h
      refine g_dmul (pc := 70) hX d_Mo_power_70 f5 ?_
      refine g_callV_D (pc := 71) hX hR f4 cf9 rfl lk_Mo_342 mf_Mo_kept (c_Mo_kept _ _ _ _ h) rfl rfl rfl ⟨by decide, by decide⟩ (cat_sum _ (Nat.le_of_ble_eq_true rfl)) d_Mo_power_71 (fun r7 A6 h => ?_)
      refine g_dstore (pc := 74) (lv0 := [(5, .int (x5)), (0, cr E x0), (1, .double (x1)), (8, .int (x8))]) hX d_Mo_power_74 (by rw [hN]; decide) (g_st2b (ks := [2, 0, 1, 4]) rfl rfl rfl rfl rfl) ?_
      refine g_iinc (pc := 76) (v := (x8 + 1)) (lv0 := [(6, .double (r7)), (5, .int (x5)), (0, cr E x0), (1, .double (x1))]) hX d_Mo_power_76 4 rfl rfl (by rw [hN]; decide) (g_st1 (ks := [0, 1, 2, 3]) rfl rfl) ?_
      refine g_goto (pc := 79) (tgt := 41) hX d_Mo_power_79 (by decide) ?_
      refine g_sub [3, 4, 2, 1, 0] rfl ?_
      exact hJ41 _ _ _ _ _ _ h
set_option maxRecDepth 100000 in
set_option maxHeartbeats 4000000 in
theorem k_Mo_power_c41 {X : CXT} {E : EVT} {K : UInt64 → Mem → Prop} (hX : Gd X E "BasicMachineModel" prog_14_method_50_code) (hR : Rm X 2 46) (hN : xnL X = 9) (hQ : QD X E K) : ∀ (n : Nat) (x0 : Nat) (x1 : UInt64) (x5 : Int32) (x6 : UInt64) (x8 : Int32) (A : Mem), wp_Mo_power_c41 K n x0 x1 x5 x6 x8 A → G X E A 41 [(0, cr E x0), (1, .double (x1)), (5, .int (x5)), (6, .double (x6)), (8, .int (x8))] [] := by
  intro n
  induction n with
  | zero => intro x0 x1 x5 x6 x8 A h; exact h.elim
  | succ n ih =>
    intro x0 x1 x5 x6 x8 A h
    rw [wp_Mo_power_c41] at h
    refine g_iload (pc := 41) hX d_Mo_power_41 4 rfl ?_
    refine g_iload (pc := 43) hX d_Mo_power_43 2 rfl ?_
    refine g_if_ge (pc := 45) (tgt := 54) hX d_Mo_power_45 (by decide) (fun q => ?_) (fun q => ?_)
    · have h := h.1 q
      refine g_iload (pc := 54) hX d_Mo_power_54 2 rfl ?_
      refine g_sub [0, 1, 2, 3, 4] rfl ?_
      exact k_Mo_power_c56 hX hR hN hQ ih _ _ _ _ _ _ _ _ h
    · have h := h.2 q
      refine g_iload (pc := 48) hX d_Mo_power_48 2 rfl ?_
      refine g_ineg (pc := 50) hX d_Mo_power_50 ?_
      refine g_goto (pc := 51) (tgt := 56) hX d_Mo_power_51 (by decide) ?_
      refine g_sub [0, 1, 2, 3, 4] rfl ?_
      exact k_Mo_power_c56 hX hR hN hQ ih _ _ _ _ _ _ _ _ h
set_option maxRecDepth 100000 in
set_option maxHeartbeats 4000000 in
theorem c_Mo_power (o : Nat) (p1 : UInt64) (p3 : UInt64) (A : Mem) (K : UInt64 → Mem → Prop) (h : wp_Mo_power o p1 p3 A K) : CtD y_Mo_power prog_14_method_50_code 9 2 46 (fun E => [cr E o, .double (p1), .double (p3)]) A K := by
  refine ctD_of "BasicMachineModel" (by decide) rfl (fun E => [(0, cr E o), (1, .double (p1)), (3, .double (p3))]) (fun E => by simp [lg_sl, cr_cat, ca_i, ca_l, ca_d]) (fun E => by simp [lv_args, cr_cat, ca_i, ca_l, ca_d]) (fun X E hX hR hN hQ => ?_)
  unfold wp_Mo_power at h
  refine g_dload_n (pc := 0) hX d_Mo_power_0 rfl 2 rfl ?_
  refine g_ldc2d (pc := 1) hX d_Mo_power_1 cn_Mo_346 ?_
  refine g_dcmp (pc := 4) hX d_Mo_power_4 ?_
  refine g_if_lt (pc := 5) (tgt := 24) hX d_Mo_power_5 (by decide) (fun q => ?_) (fun q => ?_)
  · have h := h.1 q
    refine g_aload_n (pc := 24) hX d_Mo_power_24 rfl 0 rfl ?_
    refine g_iconst (pc := 25) (v := 4) hX d_Mo_power_25 (by decide) ?_
    obtain ⟨f1, h⟩ := h
    refine g_putI (pc := 26) hX fl_Mo_94 rfl rfl rfl f1 d_Mo_power_26 ?_
    refine g_dconst0 (pc := 29) hX d_Mo_power_29 ?_
    exact g_dret hX hQ h d_Mo_power_30
  · have h := h.2 q
    refine g_dload_n (pc := 8) hX d_Mo_power_8 rfl 2 rfl ?_
    refine g_ldc2d (pc := 9) hX d_Mo_power_9 cn_Mo_348 ?_
    refine g_dcmp (pc := 12) hX d_Mo_power_12 ?_
    refine g_if_gt (pc := 13) (tgt := 24) hX d_Mo_power_13 (by decide) (fun q => ?_) (fun q => ?_)
    · have h := h.1 q
      refine g_aload_n (pc := 24) hX d_Mo_power_24 rfl 0 rfl ?_
      refine g_iconst (pc := 25) (v := 4) hX d_Mo_power_25 (by decide) ?_
      obtain ⟨f2, h⟩ := h
      refine g_putI (pc := 26) hX fl_Mo_94 rfl rfl rfl f2 d_Mo_power_26 ?_
      refine g_dconst0 (pc := 29) hX d_Mo_power_29 ?_
      exact g_dret hX hQ h d_Mo_power_30
    · have h := h.2 q
      refine g_dload_n (pc := 16) hX d_Mo_power_16 rfl 2 rfl ?_
      refine g_d2l (pc := 17) hX d_Mo_power_17 ?_
      refine g_l2d (pc := 18) hX d_Mo_power_18 ?_
      refine g_dload_n (pc := 19) hX d_Mo_power_19 rfl 2 rfl ?_
      refine g_dcmp (pc := 20) hX d_Mo_power_20 ?_
      refine g_if_eq (pc := 21) (tgt := 31) hX d_Mo_power_21 (by decide) (fun q => ?_) (fun q => ?_)
      · have h := h.1 q
        refine g_dload_n (pc := 31) hX d_Mo_power_31 rfl 2 rfl ?_
        refine g_d2i (pc := 32) hX d_Mo_power_32 ?_
        refine g_istore (pc := 33) (lv0 := [(0, cr E o), (1, .double (p1)), (3, .double (p3))]) hX d_Mo_power_33 (by rw [hN]; decide) (g_st1 (ks := [0, 1, 2]) rfl rfl) ?_
        refine g_dconst1 (pc := 35) hX d_Mo_power_35 ?_
        refine g_dstore (pc := 36) (lv0 := [(5, .int ((FP.d2i p3))), (0, cr E o), (1, .double (p1)), (3, .double (p3))]) hX d_Mo_power_36 (by rw [hN]; decide) (g_st2b (ks := [0, 1, 2, 3]) rfl rfl rfl rfl rfl) ?_
        refine g_iconst (pc := 38) (v := 0) hX d_Mo_power_38 (by decide) ?_
        refine g_istore (pc := 39) (lv0 := [(6, .double (FP.dconst1)), (5, .int ((FP.d2i p3))), (0, cr E o), (1, .double (p1)), (3, .double (p3))]) hX d_Mo_power_39 (by rw [hN]; decide) (g_st1 (ks := [0, 1, 2, 3, 4]) rfl rfl) ?_
        refine g_sub [3, 4, 2, 1, 0] rfl ?_
        obtain ⟨n9, h⟩ := h
        exact k_Mo_power_c41 hX hR hN hQ n9 _ _ _ _ _ _ h
      · have h := h.2 q
        refine g_aload_n (pc := 24) hX d_Mo_power_24 rfl 0 rfl ?_
        refine g_iconst (pc := 25) (v := 4) hX d_Mo_power_25 (by decide) ?_
        obtain ⟨f3, h⟩ := h
        refine g_putI (pc := 26) hX fl_Mo_94 rfl rfl rfl f3 d_Mo_power_26 ?_
        refine g_dconst0 (pc := 29) hX d_Mo_power_29 ?_
        exact g_dret hX hQ h d_Mo_power_30
def wp_Mo_two (o : Nat) (p1 : Int32) (p2 : UInt64) (p4 : UInt64) (A : Mem) (K : UInt64 → Mem → Prop) : Prop := ((¬ p1 = 3 → ((¬ p1 = 4 → ((¬ p1 = 5 → ((¬ p1 = 6 → kd o = 9 ∧ wp_Mo_power o p2 p4 A (fun (r2 : UInt64) (A1 : Mem) => K r2 A1)) ∧ (p1 = 6 → kd o = 9 ∧ wp_Mo_divided o p2 p4 A (fun (r5 : UInt64) (A4 : Mem) => K r5 A4)))) ∧ (p1 = 5 → vf_n64 (FP.dmul p2 p4) ∧ kd o = 9 ∧ wp_Mo_kept o (FP.dmul p2 p4) A (fun (r9 : UInt64) (A8 : Mem) => K r9 A8)))) ∧ (p1 = 4 → vf_n64 (FP.dsub p2 p4) ∧ kd o = 9 ∧ wp_Mo_kept o (FP.dsub p2 p4) A (fun (r13 : UInt64) (A12 : Mem) => K r13 A12)))) ∧ (p1 = 3 → vf_n64 (FP.dadd p2 p4) ∧ kd o = 9 ∧ wp_Mo_kept o (FP.dadd p2 p4) A (fun (r17 : UInt64) (A16 : Mem) => K r17 A16)))
set_option maxRecDepth 100000 in
set_option maxHeartbeats 4000000 in
theorem c_Mo_two (o : Nat) (p1 : Int32) (p2 : UInt64) (p4 : UInt64) (A : Mem) (K : UInt64 → Mem → Prop) (h : wp_Mo_two o p1 p2 p4 A K) : CtD y_Mo_two prog_14_method_51_code 6 3 74 (fun E => [cr E o, .int (p1), .double (p2), .double (p4)]) A K := by
  refine ctD_of "BasicMachineModel" (by decide) rfl (fun E => [(0, cr E o), (1, .int (p1)), (2, .double (p2)), (4, .double (p4))]) (fun E => by simp [lg_sl, cr_cat, ca_i, ca_l, ca_d]) (fun E => by simp [lv_args, cr_cat, ca_i, ca_l, ca_d]) (fun X E hX hR hN hQ => ?_)
  unfold wp_Mo_two at h
  refine g_iload_n (pc := 0) hX d_Mo_two_0 rfl 1 rfl ?_
  refine g_iconst (pc := 1) (v := 3) hX d_Mo_two_1 (by decide) ?_
  refine g_icmp_ne (pc := 2) (tgt := 14) hX d_Mo_two_2 (by decide) (fun q => ?_) (fun q => ?_)
  · have h := h.1 q
    refine g_iload_n (pc := 14) hX d_Mo_two_14 rfl 1 rfl ?_
    refine g_iconst (pc := 15) (v := 4) hX d_Mo_two_15 (by decide) ?_
    refine g_icmp_ne (pc := 16) (tgt := 28) hX d_Mo_two_16 (by decide) (fun q => ?_) (fun q => ?_)
    · have h := h.1 q
      refine g_iload_n (pc := 28) hX d_Mo_two_28 rfl 1 rfl ?_
      refine g_iconst (pc := 29) (v := 5) hX d_Mo_two_29 (by decide) ?_
      refine g_icmp_ne (pc := 30) (tgt := 42) hX d_Mo_two_30 (by decide) (fun q => ?_) (fun q => ?_)
      · have h := h.1 q
        refine g_iload_n (pc := 42) hX d_Mo_two_42 rfl 1 rfl ?_
        refine g_bipush (pc := 43) (v := 6) hX d_Mo_two_43 (by decide) ?_
        refine g_icmp_ne (pc := 45) (tgt := 58) hX d_Mo_two_45 (by decide) (fun q => ?_) (fun q => ?_)
        · have h := h.1 q
          refine g_aload_n (pc := 58) hX d_Mo_two_58 rfl 0 rfl ?_
          refine g_dload_n (pc := 59) hX d_Mo_two_59 rfl 2 rfl ?_
          refine g_dload (pc := 60) hX d_Mo_two_60 3 rfl ?_
          obtain ⟨f3, h⟩ := h
          refine g_callV_D (pc := 62) hX hR f3 cf9 rfl lk_Mo_354 mf_Mo_power (c_Mo_power _ _ _ _ _ h) rfl rfl rfl ⟨by decide, by decide⟩ (cat_sum _ (Nat.le_of_ble_eq_true rfl)) d_Mo_two_62 (fun r2 A1 h => ?_)
          exact g_dret hX hQ h d_Mo_two_65
        · have h := h.2 q
          refine g_aload_n (pc := 48) hX d_Mo_two_48 rfl 0 rfl ?_
          refine g_dload_n (pc := 49) hX d_Mo_two_49 rfl 2 rfl ?_
          refine g_dload (pc := 50) hX d_Mo_two_50 3 rfl ?_
          obtain ⟨f6, h⟩ := h
          refine g_callV_D (pc := 52) hX hR f6 cf9 rfl lk_Mo_350 mf_Mo_divided (c_Mo_divided _ _ _ _ _ h) rfl rfl rfl ⟨by decide, by decide⟩ (cat_sum _ (Nat.le_of_ble_eq_true rfl)) d_Mo_two_52 (fun r5 A4 h => ?_)
          refine g_goto (pc := 55) (tgt := 65) hX d_Mo_two_55 (by decide) ?_
          exact g_dret hX hQ h d_Mo_two_65
      · have h := h.2 q
        refine g_aload_n (pc := 33) hX d_Mo_two_33 rfl 0 rfl ?_
        refine g_dload_n (pc := 34) hX d_Mo_two_34 rfl 2 rfl ?_
        refine g_dload (pc := 35) hX d_Mo_two_35 3 rfl ?_
        obtain ⟨f7, h⟩ := h
        refine g_dmul (pc := 37) hX d_Mo_two_37 f7 ?_
        obtain ⟨f10, h⟩ := h
        refine g_callV_D (pc := 38) hX hR f10 cf9 rfl lk_Mo_342 mf_Mo_kept (c_Mo_kept _ _ _ _ h) rfl rfl rfl ⟨by decide, by decide⟩ (cat_sum _ (Nat.le_of_ble_eq_true rfl)) d_Mo_two_38 (fun r9 A8 h => ?_)
        exact g_dret hX hQ h d_Mo_two_41
    · have h := h.2 q
      refine g_aload_n (pc := 19) hX d_Mo_two_19 rfl 0 rfl ?_
      refine g_dload_n (pc := 20) hX d_Mo_two_20 rfl 2 rfl ?_
      refine g_dload (pc := 21) hX d_Mo_two_21 3 rfl ?_
      obtain ⟨f11, h⟩ := h
      refine g_dsub (pc := 23) hX d_Mo_two_23 f11 ?_
      obtain ⟨f14, h⟩ := h
      refine g_callV_D (pc := 24) hX hR f14 cf9 rfl lk_Mo_342 mf_Mo_kept (c_Mo_kept _ _ _ _ h) rfl rfl rfl ⟨by decide, by decide⟩ (cat_sum _ (Nat.le_of_ble_eq_true rfl)) d_Mo_two_24 (fun r13 A12 h => ?_)
      exact g_dret hX hQ h d_Mo_two_27
  · have h := h.2 q
    refine g_aload_n (pc := 5) hX d_Mo_two_5 rfl 0 rfl ?_
    refine g_dload_n (pc := 6) hX d_Mo_two_6 rfl 2 rfl ?_
    refine g_dload (pc := 7) hX d_Mo_two_7 3 rfl ?_
    obtain ⟨f15, h⟩ := h
    refine g_dadd (pc := 9) hX d_Mo_two_9 f15 ?_
    obtain ⟨f18, h⟩ := h
    refine g_callV_D (pc := 10) hX hR f18 cf9 rfl lk_Mo_342 mf_Mo_kept (c_Mo_kept _ _ _ _ h) rfl rfl rfl ⟨by decide, by decide⟩ (cat_sum _ (Nat.le_of_ble_eq_true rfl)) d_Mo_two_10 (fun r17 A16 h => ?_)
    exact g_dret hX hQ h d_Mo_two_13
def wp_Mo_one (o : Nat) (p1 : Int32) (p2 : UInt64) (A : Mem) (K : UInt64 → Mem → Prop) : Prop := ((¬ p1 = 8 → ((¬ p1 = 9 → ((¬ p1 = 10 → ((0 ≤ (Op.cmpValue (FP.dcmp p2 FP.dconst0) .g) → (((Op.cmpValue (FP.dcmp p2 FP.dconst0) .l) ≤ 0 → K FP.dconst0 A) ∧ (¬ (Op.cmpValue (FP.dcmp p2 FP.dconst0) .l) ≤ 0 → K FP.dconst1 A))) ∧ (¬ 0 ≤ (Op.cmpValue (FP.dcmp p2 FP.dconst0) .g) → K 13830554455654793216 A))) ∧ (p1 = 10 → kd o = 9 ∧ wp_Mo_floor o p2 A (fun (r2 : UInt64) (A1 : Mem) => K r2 A1)))) ∧ (p1 = 9 → ((0 ≤ (Op.cmpValue (FP.dcmp p2 FP.dconst0) .g) → K p2 A) ∧ (¬ 0 ≤ (Op.cmpValue (FP.dcmp p2 FP.dconst0) .g) → K (FP.dneg p2) A))))) ∧ (p1 = 8 → K (FP.dneg p2) A))
set_option maxRecDepth 100000 in
set_option maxHeartbeats 4000000 in
theorem c_Mo_one (o : Nat) (p1 : Int32) (p2 : UInt64) (A : Mem) (K : UInt64 → Mem → Prop) (h : wp_Mo_one o p1 p2 A K) : CtD y_Mo_one prog_14_method_52_code 4 1 24 (fun E => [cr E o, .int (p1), .double (p2)]) A K := by
  refine ctD_of "BasicMachineModel" (by decide) rfl (fun E => [(0, cr E o), (1, .int (p1)), (2, .double (p2))]) (fun E => by simp [lg_sl, cr_cat, ca_i, ca_l, ca_d]) (fun E => by simp [lv_args, cr_cat, ca_i, ca_l, ca_d]) (fun X E hX hR hN hQ => ?_)
  unfold wp_Mo_one at h
  refine g_iload_n (pc := 0) hX d_Mo_one_0 rfl 1 rfl ?_
  refine g_bipush (pc := 1) (v := 8) hX d_Mo_one_1 (by decide) ?_
  refine g_icmp_ne (pc := 3) (tgt := 9) hX d_Mo_one_3 (by decide) (fun q => ?_) (fun q => ?_)
  · have h := h.1 q
    refine g_iload_n (pc := 9) hX d_Mo_one_9 rfl 1 rfl ?_
    refine g_bipush (pc := 10) (v := 9) hX d_Mo_one_10 (by decide) ?_
    refine g_icmp_ne (pc := 12) (tgt := 28) hX d_Mo_one_12 (by decide) (fun q => ?_) (fun q => ?_)
    · have h := h.1 q
      refine g_iload_n (pc := 28) hX d_Mo_one_28 rfl 1 rfl ?_
      refine g_bipush (pc := 29) (v := 10) hX d_Mo_one_29 (by decide) ?_
      refine g_icmp_ne (pc := 31) (tgt := 40) hX d_Mo_one_31 (by decide) (fun q => ?_) (fun q => ?_)
      · have h := h.1 q
        refine g_dload_n (pc := 40) hX d_Mo_one_40 rfl 2 rfl ?_
        refine g_dconst0 (pc := 41) hX d_Mo_one_41 ?_
        refine g_dcmp (pc := 42) hX d_Mo_one_42 ?_
        refine g_if_ge (pc := 43) (tgt := 52) hX d_Mo_one_43 (by decide) (fun q => ?_) (fun q => ?_)
        · have h := h.1 q
          refine g_dload_n (pc := 52) hX d_Mo_one_52 rfl 2 rfl ?_
          refine g_dconst0 (pc := 53) hX d_Mo_one_53 ?_
          refine g_dcmp (pc := 54) hX d_Mo_one_54 ?_
          refine g_if_le (pc := 55) (tgt := 62) hX d_Mo_one_55 (by decide) (fun q => ?_) (fun q => ?_)
          · have h := h.1 q
            refine g_dconst0 (pc := 62) hX d_Mo_one_62 ?_
            exact g_dret hX hQ h d_Mo_one_63
          · have h := h.2 q
            refine g_dconst1 (pc := 58) hX d_Mo_one_58 ?_
            refine g_goto (pc := 59) (tgt := 63) hX d_Mo_one_59 (by decide) ?_
            exact g_dret hX hQ h d_Mo_one_63
        · have h := h.2 q
          refine g_ldc2d (pc := 46) hX d_Mo_one_46 cn_Mo_360 ?_
          refine g_goto (pc := 49) (tgt := 63) hX d_Mo_one_49 (by decide) ?_
          exact g_dret hX hQ h d_Mo_one_63
      · have h := h.2 q
        refine g_aload_n (pc := 34) hX d_Mo_one_34 rfl 0 rfl ?_
        refine g_dload_n (pc := 35) hX d_Mo_one_35 rfl 2 rfl ?_
        obtain ⟨f3, h⟩ := h
        refine g_callV_D (pc := 36) hX hR f3 cf9 rfl lk_Mo_357 mf_Mo_floor (c_Mo_floor _ _ _ _ h) rfl rfl rfl ⟨by decide, by decide⟩ (cat_sum _ (Nat.le_of_ble_eq_true rfl)) d_Mo_one_36 (fun r2 A1 h => ?_)
        exact g_dret hX hQ h d_Mo_one_39
    · have h := h.2 q
      refine g_dload_n (pc := 15) hX d_Mo_one_15 rfl 2 rfl ?_
      refine g_dconst0 (pc := 16) hX d_Mo_one_16 ?_
      refine g_dcmp (pc := 17) hX d_Mo_one_17 ?_
      refine g_if_ge (pc := 18) (tgt := 26) hX d_Mo_one_18 (by decide) (fun q => ?_) (fun q => ?_)
      · have h := h.1 q
        refine g_dload_n (pc := 26) hX d_Mo_one_26 rfl 2 rfl ?_
        exact g_dret hX hQ h d_Mo_one_27
      · have h := h.2 q
        refine g_dload_n (pc := 21) hX d_Mo_one_21 rfl 2 rfl ?_
        refine g_dneg (pc := 22) hX d_Mo_one_22 ?_
        refine g_goto (pc := 23) (tgt := 27) hX d_Mo_one_23 (by decide) ?_
        exact g_dret hX hQ h d_Mo_one_27
  · have h := h.2 q
    refine g_dload_n (pc := 6) hX d_Mo_one_6 rfl 2 rfl ?_
    refine g_dneg (pc := 7) hX d_Mo_one_7 ?_
    exact g_dret hX hQ h d_Mo_one_8
def wp_Mo_plain_c5 (K : UInt64 → Mem → Prop) : Nat → Nat → Int32 → UInt64 → Int32 → Mem → Prop
  | 0, _, _, _, _, _ => False
  | n + 1, x0, x1, x2, x4, A => kd x0 = 9 ∧ kd (gR A x0 14) = 51 ∧ vp_in (x1 + 1) (al (gR A x0 14)) ∧ (((gI A (gR A x0 14) (Int32.toNatClampNeg (x1 + 1))) ≤ x4 → vp_in x1 (al (gR A x0 14)) ∧ vf_n64 (FP.ddiv (FP.i2d (gI A (gR A x0 14) (Int32.toNatClampNeg x1))) x2) ∧ K (FP.ddiv (FP.i2d (gI A (gR A x0 14) (Int32.toNatClampNeg x1))) x2) A) ∧ (¬ (gI A (gR A x0 14) (Int32.toNatClampNeg (x1 + 1))) ≤ x4 → vf_n64 (FP.dmul x2 4621819117588971520) ∧ wp_Mo_plain_c5 K n x0 x1 (FP.dmul x2 4621819117588971520) (x4 + 1) A))
def wp_Mo_plain (o : Nat) (p1 : Int32) (A : Mem) (K : UInt64 → Mem → Prop) : Prop := (∃ n9 : Nat, wp_Mo_plain_c5 K n9 o p1 FP.dconst1 0 A)
set_option maxRecDepth 100000 in
set_option maxHeartbeats 4000000 in
theorem k_Mo_plain_c5 {X : CXT} {E : EVT} {K : UInt64 → Mem → Prop} (hX : Gd X E "BasicMachineModel" prog_14_method_53_code) (hR : Rm X 0 0) (hN : xnL X = 5) (hQ : QD X E K) : ∀ (n : Nat) (x0 : Nat) (x1 : Int32) (x2 : UInt64) (x4 : Int32) (A : Mem), wp_Mo_plain_c5 K n x0 x1 x2 x4 A → G X E A 5 [(0, cr E x0), (1, .int (x1)), (2, .double (x2)), (4, .int (x4))] [] := by
  intro n
  induction n with
  | zero => intro x0 x1 x2 x4 A h; exact h.elim
  | succ n ih =>
    intro x0 x1 x2 x4 A h
    rw [wp_Mo_plain_c5] at h
    refine g_iload (pc := 5) hX d_Mo_plain_5 3 rfl ?_
    refine g_aload_n (pc := 7) hX d_Mo_plain_7 rfl 0 rfl ?_
    obtain ⟨f1, h⟩ := h
    refine g_getR (pc := 8) hX fl_Mo_55 rfl f1 d_Mo_plain_8 ?_
    refine g_iload_n (pc := 11) hX d_Mo_plain_11 rfl 1 rfl ?_
    refine g_iconst (pc := 12) (v := 1) hX d_Mo_plain_12 (by decide) ?_
    refine g_iadd (pc := 13) hX d_Mo_plain_13 ?_
    obtain ⟨f2, h⟩ := h
    obtain ⟨f3, h⟩ := h
    refine g_iaload (pc := 14) hX f2 f3 d_Mo_plain_14 ?_
    refine g_icmp_ge (pc := 15) (tgt := 30) hX d_Mo_plain_15 (by decide) (fun q => ?_) (fun q => ?_)
    · have h := h.1 q
      refine g_aload_n (pc := 30) hX d_Mo_plain_30 rfl 0 rfl ?_
      refine g_getR (pc := 31) hX fl_Mo_55 rfl f1 d_Mo_plain_31 ?_
      refine g_iload_n (pc := 34) hX d_Mo_plain_34 rfl 1 rfl ?_
      obtain ⟨f4, h⟩ := h
      refine g_iaload (pc := 35) hX f2 f4 d_Mo_plain_35 ?_
      refine g_i2d (pc := 36) hX d_Mo_plain_36 ?_
      refine g_dload_n (pc := 37) hX d_Mo_plain_37 rfl 2 rfl ?_
      obtain ⟨f5, h⟩ := h
      refine g_ddiv (pc := 38) hX d_Mo_plain_38 f5 ?_
      exact g_dret hX hQ h d_Mo_plain_39
    · have h := h.2 q
      refine g_dload_n (pc := 18) hX d_Mo_plain_18 rfl 2 rfl ?_
      refine g_ldc2d (pc := 19) hX d_Mo_plain_19 cn_Mo_362 ?_
      obtain ⟨f6, h⟩ := h
      refine g_dmul (pc := 22) hX d_Mo_plain_22 f6 ?_
      refine g_dstore_n (pc := 23) (lv0 := [(1, .int (x1)), (0, cr E x0), (4, .int (x4))]) hX d_Mo_plain_23 rfl (by rw [hN]; decide) (g_st2b (ks := [1, 0, 3]) rfl rfl rfl rfl rfl) ?_
      refine g_iinc (pc := 24) (v := (x4 + 1)) (lv0 := [(2, .double ((FP.dmul x2 4621819117588971520))), (1, .int (x1)), (0, cr E x0)]) hX d_Mo_plain_24 3 rfl rfl (by rw [hN]; decide) (g_st1 (ks := [0, 1, 2]) rfl rfl) ?_
      refine g_goto (pc := 27) (tgt := 5) hX d_Mo_plain_27 (by decide) ?_
      refine g_sub [3, 2, 1, 0] rfl ?_
      exact ih _ _ _ _ _ h
set_option maxRecDepth 100000 in
set_option maxHeartbeats 4000000 in
theorem c_Mo_plain (o : Nat) (p1 : Int32) (A : Mem) (K : UInt64 → Mem → Prop) (h : wp_Mo_plain o p1 A K) : CtD y_Mo_plain prog_14_method_53_code 5 0 0 (fun E => [cr E o, .int (p1)]) A K := by
  refine ctD_of "BasicMachineModel" (by decide) rfl (fun E => [(0, cr E o), (1, .int (p1))]) (fun E => by simp [lg_sl, cr_cat, ca_i, ca_l, ca_d]) (fun E => by simp [lv_args, cr_cat, ca_i, ca_l, ca_d]) (fun X E hX hR hN hQ => ?_)
  unfold wp_Mo_plain at h
  refine g_dconst1 (pc := 0) hX d_Mo_plain_0 ?_
  refine g_dstore_n (pc := 1) (lv0 := [(1, .int (p1)), (0, cr E o)]) hX d_Mo_plain_1 rfl (by rw [hN]; decide) (g_st2b (ks := [1, 0]) rfl rfl rfl rfl rfl) ?_
  refine g_iconst (pc := 2) (v := 0) hX d_Mo_plain_2 (by decide) ?_
  refine g_istore (pc := 3) (lv0 := [(2, .double (FP.dconst1)), (1, .int (p1)), (0, cr E o)]) hX d_Mo_plain_3 (by rw [hN]; decide) (g_st1 (ks := [0, 1, 2]) rfl rfl) ?_
  refine g_sub [3, 2, 1, 0] rfl ?_
  obtain ⟨n9, h⟩ := h
  exact k_Mo_plain_c5 hX hR hN hQ n9 _ _ _ _ _ h
def wp_Mo_placeOf (o : Nat) (p1 : Int32) (p2 : UInt64) (p4 : UInt64) (A : Mem) (K : Int32 → Mem → Prop) : Prop := (((lg_cmp (FP.d2l p2) 1) < 0 → kd o = 9 ∧ K (-1) (sI A o 27 5)) ∧ (¬ (lg_cmp (FP.d2l p2) 1) < 0 → kd o = 9 ∧ kd (gR A o 38) = 51 ∧ vp_in p1 (al (gR A o 38)) ∧ ((0 < (lg_cmp (FP.d2l p2) (Int32.toInt64 (gI A (gR A o 38) (Int32.toNatClampNeg p1)))) → K (-1) (sI A o 27 5)) ∧ (¬ 0 < (lg_cmp (FP.d2l p2) (Int32.toInt64 (gI A (gR A o 38) (Int32.toNatClampNeg p1)))) → (((lg_cmp (FP.d2l p4) 1) < 0 → K (-1) (sI A o 27 5)) ∧ (¬ (lg_cmp (FP.d2l p4) 1) < 0 → kd (gR A o 39) = 51 ∧ vp_in p1 (al (gR A o 39)) ∧ (((lg_cmp (FP.d2l p4) (Int32.toInt64 (gI A (gR A o 39) (Int32.toNatClampNeg p1)))) ≤ 0 → K (((p1 * 36) + ((Int64.toInt32 ((FP.d2l p2) - 1)) * 6)) + (Int64.toInt32 ((FP.d2l p4) - 1))) A) ∧ (¬ (lg_cmp (FP.d2l p4) (Int32.toInt64 (gI A (gR A o 39) (Int32.toNatClampNeg p1)))) ≤ 0 → K (-1) (sI A o 27 5)))))))))
set_option maxRecDepth 100000 in
set_option maxHeartbeats 4000000 in
theorem c_Mo_placeOf (o : Nat) (p1 : Int32) (p2 : UInt64) (p4 : UInt64) (A : Mem) (K : Int32 → Mem → Prop) (h : wp_Mo_placeOf o p1 p2 p4 A K) : CtI y_Mo_placeOf prog_14_method_54_code 10 0 0 (fun E => [cr E o, .int (p1), .double (p2), .double (p4)]) A K := by
  refine ctI_of "BasicMachineModel" (by decide) rfl (fun E => [(0, cr E o), (1, .int (p1)), (2, .double (p2)), (4, .double (p4))]) (fun E => by simp [lg_sl, cr_cat, ca_i, ca_l, ca_d]) (fun E => by simp [lv_args, cr_cat, ca_i, ca_l, ca_d]) (fun X E hX hR hN hQ => ?_)
  unfold wp_Mo_placeOf at h
  refine g_dload_n (pc := 0) hX d_Mo_placeOf_0 rfl 2 rfl ?_
  refine g_d2l (pc := 1) hX d_Mo_placeOf_1 ?_
  refine g_lstore (pc := 2) (lv0 := [(0, cr E o), (1, .int (p1)), (2, .double (p2)), (4, .double (p4))]) hX d_Mo_placeOf_2 (by rw [hN]; decide) (g_st2 (ks := [0, 1, 2, 3]) rfl rfl) ?_
  refine g_dload (pc := 4) hX d_Mo_placeOf_4 4 rfl ?_
  refine g_d2l (pc := 6) hX d_Mo_placeOf_6 ?_
  refine g_lstore (pc := 7) (lv0 := [(6, .long ((FP.d2l p2))), (0, cr E o), (1, .int (p1)), (2, .double (p2)), (4, .double (p4))]) hX d_Mo_placeOf_7 (by rw [hN]; decide) (g_st2 (ks := [0, 1, 2, 3, 4]) rfl rfl) ?_
  refine g_lload (pc := 9) hX d_Mo_placeOf_9 1 rfl ?_
  refine g_lconst (pc := 11) (v := 1) hX d_Mo_placeOf_11 (by decide) ?_
  refine g_lcmp (pc := 12) hX d_Mo_placeOf_12 ?_
  refine g_if_lt (pc := 13) (tgt := 49) hX d_Mo_placeOf_13 (by decide) (fun q => ?_) (fun q => ?_)
  · have h := h.1 q
    refine g_aload_n (pc := 49) hX d_Mo_placeOf_49 rfl 2 rfl ?_
    refine g_iconst (pc := 50) (v := 5) hX d_Mo_placeOf_50 (by decide) ?_
    obtain ⟨f1, h⟩ := h
    refine g_putI (pc := 51) hX fl_Mo_94 rfl rfl rfl f1 d_Mo_placeOf_51 ?_
    refine g_iconst (pc := 54) (v := (-1)) hX d_Mo_placeOf_54 (by decide) ?_
    exact g_iret hX hQ h d_Mo_placeOf_55
  · have h := h.2 q
    refine g_lload (pc := 16) hX d_Mo_placeOf_16 1 rfl ?_
    refine g_aload_n (pc := 18) hX d_Mo_placeOf_18 rfl 2 rfl ?_
    obtain ⟨f2, h⟩ := h
    refine g_getR (pc := 19) hX fl_Mo_128 rfl f2 d_Mo_placeOf_19 ?_
    refine g_iload_n (pc := 22) hX d_Mo_placeOf_22 rfl 3 rfl ?_
    obtain ⟨f3, h⟩ := h
    obtain ⟨f4, h⟩ := h
    refine g_iaload (pc := 23) hX f3 f4 d_Mo_placeOf_23 ?_
    refine g_i2l (pc := 24) hX d_Mo_placeOf_24 ?_
    refine g_lcmp (pc := 25) hX d_Mo_placeOf_25 ?_
    refine g_if_gt (pc := 26) (tgt := 49) hX d_Mo_placeOf_26 (by decide) (fun q => ?_) (fun q => ?_)
    · have h := h.1 q
      refine g_aload_n (pc := 49) hX d_Mo_placeOf_49 rfl 2 rfl ?_
      refine g_iconst (pc := 50) (v := 5) hX d_Mo_placeOf_50 (by decide) ?_
      refine g_putI (pc := 51) hX fl_Mo_94 rfl rfl rfl f2 d_Mo_placeOf_51 ?_
      refine g_iconst (pc := 54) (v := (-1)) hX d_Mo_placeOf_54 (by decide) ?_
      exact g_iret hX hQ h d_Mo_placeOf_55
    · have h := h.2 q
      refine g_lload (pc := 29) hX d_Mo_placeOf_29 0 rfl ?_
      refine g_lconst (pc := 31) (v := 1) hX d_Mo_placeOf_31 (by decide) ?_
      refine g_lcmp (pc := 32) hX d_Mo_placeOf_32 ?_
      refine g_if_lt (pc := 33) (tgt := 49) hX d_Mo_placeOf_33 (by decide) (fun q => ?_) (fun q => ?_)
      · have h := h.1 q
        refine g_aload_n (pc := 49) hX d_Mo_placeOf_49 rfl 2 rfl ?_
        refine g_iconst (pc := 50) (v := 5) hX d_Mo_placeOf_50 (by decide) ?_
        refine g_putI (pc := 51) hX fl_Mo_94 rfl rfl rfl f2 d_Mo_placeOf_51 ?_
        refine g_iconst (pc := 54) (v := (-1)) hX d_Mo_placeOf_54 (by decide) ?_
        exact g_iret hX hQ h d_Mo_placeOf_55
      · have h := h.2 q
        refine g_lload (pc := 36) hX d_Mo_placeOf_36 0 rfl ?_
        refine g_aload_n (pc := 38) hX d_Mo_placeOf_38 rfl 2 rfl ?_
        refine g_getR (pc := 39) hX fl_Mo_131 rfl f2 d_Mo_placeOf_39 ?_
        refine g_iload_n (pc := 42) hX d_Mo_placeOf_42 rfl 3 rfl ?_
        obtain ⟨f5, h⟩ := h
        obtain ⟨f6, h⟩ := h
        refine g_iaload (pc := 43) hX f5 f6 d_Mo_placeOf_43 ?_
        refine g_i2l (pc := 44) hX d_Mo_placeOf_44 ?_
        refine g_lcmp (pc := 45) hX d_Mo_placeOf_45 ?_
        refine g_if_le (pc := 46) (tgt := 56) hX d_Mo_placeOf_46 (by decide) (fun q => ?_) (fun q => ?_)
        · have h := h.1 q
          refine g_iload_n (pc := 56) hX d_Mo_placeOf_56 rfl 3 rfl ?_
          refine g_bipush (pc := 57) (v := 36) hX d_Mo_placeOf_57 (by decide) ?_
          refine g_imul (pc := 59) hX d_Mo_placeOf_59 ?_
          refine g_lload (pc := 60) hX d_Mo_placeOf_60 1 rfl ?_
          refine g_lconst (pc := 62) (v := 1) hX d_Mo_placeOf_62 (by decide) ?_
          refine g_lsub (pc := 63) hX d_Mo_placeOf_63 ?_
          refine g_l2i (pc := 64) hX d_Mo_placeOf_64 ?_
          refine g_bipush (pc := 65) (v := 6) hX d_Mo_placeOf_65 (by decide) ?_
          refine g_imul (pc := 67) hX d_Mo_placeOf_67 ?_
          refine g_iadd (pc := 68) hX d_Mo_placeOf_68 ?_
          refine g_lload (pc := 69) hX d_Mo_placeOf_69 0 rfl ?_
          refine g_lconst (pc := 71) (v := 1) hX d_Mo_placeOf_71 (by decide) ?_
          refine g_lsub (pc := 72) hX d_Mo_placeOf_72 ?_
          refine g_l2i (pc := 73) hX d_Mo_placeOf_73 ?_
          refine g_iadd (pc := 74) hX d_Mo_placeOf_74 ?_
          exact g_iret hX hQ h d_Mo_placeOf_75
        · have h := h.2 q
          refine g_aload_n (pc := 49) hX d_Mo_placeOf_49 rfl 2 rfl ?_
          refine g_iconst (pc := 50) (v := 5) hX d_Mo_placeOf_50 (by decide) ?_
          refine g_putI (pc := 51) hX fl_Mo_94 rfl rfl rfl f2 d_Mo_placeOf_51 ?_
          refine g_iconst (pc := 54) (v := (-1)) hX d_Mo_placeOf_54 (by decide) ?_
          exact g_iret hX hQ h d_Mo_placeOf_55
def wp_Mo_call (o : Nat) (p1 : Int32) (p2 : Int32) (A : Mem) (K : Int32 → Mem → Prop) : Prop := kd o = 9 ∧ ((¬ (gI A o 24) = 3 → kd (gR A o 37) = 51 ∧ vp_in p1 (al (gR A o 37)) ∧ kd (gR A o 12) = 51 ∧ vp_in (((gI A (gR A o 37) (Int32.toNatClampNeg p1)) * 8) + 1) (al (gR A o 12)) ∧ kd (gR A o 43) = 51 ∧ vp_in (gI A o 24) (al (gR A o 43)) ∧ kd (gR (sI A (gR A o 43) (Int32.toNatClampNeg (gI A o 24)) p2) o 44) = 51 ∧ vp_in (gI (sI A (gR A o 43) (Int32.toNatClampNeg (gI A o 24)) p2) o 24) (al (gR (sI A (gR A o 43) (Int32.toNatClampNeg (gI A o 24)) p2) o 44)) ∧ ∀ A10 : Mem, A10 = (sI (sI A (gR A o 43) (Int32.toNatClampNeg (gI A o 24)) p2) (gR (sI A (gR A o 43) (Int32.toNatClampNeg (gI A o 24)) p2) o 44) (Int32.toNatClampNeg (gI (sI A (gR A o 43) (Int32.toNatClampNeg (gI A o 24)) p2) o 24)) (gI A (gR A o 12) (Int32.toNatClampNeg (((gI A (gR A o 37) (Int32.toNatClampNeg p1)) * 8) + 1)))) → kd (gR A10 o 29) = 53 ∧ vp_in (gI A (gR A o 12) (Int32.toNatClampNeg (((gI A (gR A o 37) (Int32.toNatClampNeg p1)) * 8) + 1))) (al (gR A10 o 29)) ∧ kd (gR A10 o 34) = 53 ∧ vp_in (gI A10 o 24) (al (gR A10 o 34)) ∧ ∀ A15 : Mem, A15 = (sD A10 (gR A10 o 34) (Int32.toNatClampNeg (gI A10 o 24)) (gD A10 (gR A10 o 29) (Int32.toNatClampNeg (gI A (gR A o 12) (Int32.toNatClampNeg (((gI A (gR A o 37) (Int32.toNatClampNeg p1)) * 8) + 1)))))) → kd (gR (sI (sI A15 o 24 ((gI A15 o 24) + 1)) o 25 ((gI (sI A15 o 24 ((gI A15 o 24) + 1)) o 25) - 1)) o 30) = 53 ∧ vp_in (gI (sI (sI A15 o 24 ((gI A15 o 24) + 1)) o 25 ((gI (sI A15 o 24 ((gI A15 o 24) + 1)) o 25) - 1)) o 25) (al (gR (sI (sI A15 o 24 ((gI A15 o 24) + 1)) o 25 ((gI (sI A15 o 24 ((gI A15 o 24) + 1)) o 25) - 1)) o 30)) ∧ kd (gR (sI (sI A15 o 24 ((gI A15 o 24) + 1)) o 25 ((gI (sI A15 o 24 ((gI A15 o 24) + 1)) o 25) - 1)) o 29) = 53 ∧ vp_in (gI A (gR A o 12) (Int32.toNatClampNeg (((gI A (gR A o 37) (Int32.toNatClampNeg p1)) * 8) + 1))) (al (gR (sI (sI A15 o 24 ((gI A15 o 24) + 1)) o 25 ((gI (sI A15 o 24 ((gI A15 o 24) + 1)) o 25) - 1)) o 29)) ∧ ∀ A20 : Mem, A20 = (sD (sI (sI A15 o 24 ((gI A15 o 24) + 1)) o 25 ((gI (sI A15 o 24 ((gI A15 o 24) + 1)) o 25) - 1)) (gR (sI (sI A15 o 24 ((gI A15 o 24) + 1)) o 25 ((gI (sI A15 o 24 ((gI A15 o 24) + 1)) o 25) - 1)) o 29) (Int32.toNatClampNeg (gI A (gR A o 12) (Int32.toNatClampNeg (((gI A (gR A o 37) (Int32.toNatClampNeg p1)) * 8) + 1)))) (gD (sI (sI A15 o 24 ((gI A15 o 24) + 1)) o 25 ((gI (sI A15 o 24 ((gI A15 o 24) + 1)) o 25) - 1)) (gR (sI (sI A15 o 24 ((gI A15 o 24) + 1)) o 25 ((gI (sI A15 o 24 ((gI A15 o 24) + 1)) o 25) - 1)) o 30) (Int32.toNatClampNeg (gI (sI (sI A15 o 24 ((gI A15 o 24) + 1)) o 25 ((gI (sI A15 o 24 ((gI A15 o 24) + 1)) o 25) - 1)) o 25)))) → kd (gR A20 o 37) = 51 ∧ vp_in p1 (al (gR A20 o 37)) ∧ kd (gR A20 o 13) = 51 ∧ vp_in ((gI A20 (gR A20 o 37) (Int32.toNatClampNeg p1)) * 4) (al (gR A20 o 13)) ∧ K (gI A20 (gR A20 o 13) (Int32.toNatClampNeg ((gI A20 (gR A20 o 37) (Int32.toNatClampNeg p1)) * 4))) A20) ∧ ((gI A o 24) = 3 → K p2 (sI A o 27 2)))
set_option maxRecDepth 100000 in
set_option maxHeartbeats 4000000 in
theorem c_Mo_call (o : Nat) (p1 : Int32) (p2 : Int32) (A : Mem) (K : Int32 → Mem → Prop) (h : wp_Mo_call o p1 p2 A K) : CtI y_Mo_call prog_14_method_55_code 4 0 0 (fun E => [cr E o, .int (p1), .int (p2)]) A K := by
  refine ctI_of "BasicMachineModel" (by decide) rfl (fun E => [(0, cr E o), (1, .int (p1)), (2, .int (p2))]) (fun E => by simp [lg_sl, cr_cat, ca_i, ca_l, ca_d]) (fun E => by simp [lv_args, cr_cat, ca_i, ca_l, ca_d]) (fun X E hX hR hN hQ => ?_)
  unfold wp_Mo_call at h
  refine g_aload_n (pc := 0) hX d_Mo_call_0 rfl 0 rfl ?_
  obtain ⟨f1, h⟩ := h
  refine g_getI (pc := 1) hX fl_Mo_85 rfl f1 d_Mo_call_1 ?_
  refine g_iconst (pc := 4) (v := 3) hX d_Mo_call_4 (by decide) ?_
  refine g_icmp_ne (pc := 5) (tgt := 15) hX d_Mo_call_5 (by decide) (fun q => ?_) (fun q => ?_)
  · have h := h.1 q
    refine g_aload_n (pc := 15) hX d_Mo_call_15 rfl 0 rfl ?_
    refine g_getR (pc := 16) hX fl_Mo_49 rfl f1 d_Mo_call_16 ?_
    refine g_aload_n (pc := 19) hX d_Mo_call_19 rfl 0 rfl ?_
    refine g_getR (pc := 20) hX fl_Mo_125 rfl f1 d_Mo_call_20 ?_
    refine g_iload_n (pc := 23) hX d_Mo_call_23 rfl 1 rfl ?_
    obtain ⟨f2, h⟩ := h
    obtain ⟨f3, h⟩ := h
    refine g_iaload (pc := 24) hX f2 f3 d_Mo_call_24 ?_
    refine g_bipush (pc := 25) (v := 8) hX d_Mo_call_25 (by decide) ?_
    refine g_imul (pc := 27) hX d_Mo_call_27 ?_
    refine g_iconst (pc := 28) (v := 1) hX d_Mo_call_28 (by decide) ?_
    refine g_iadd (pc := 29) hX d_Mo_call_29 ?_
    obtain ⟨f4, h⟩ := h
    obtain ⟨f5, h⟩ := h
    refine g_iaload (pc := 30) hX f4 f5 d_Mo_call_30 ?_
    refine g_istore_n (pc := 31) (lv0 := [(2, .int (p2)), (0, cr E o), (1, .int (p1))]) hX d_Mo_call_31 rfl (by rw [hN]; decide) (g_st1b (ks := [2, 0, 1]) rfl rfl rfl rfl) ?_
    refine g_aload_n (pc := 32) hX d_Mo_call_32 rfl 2 rfl ?_
    refine g_getR (pc := 33) hX fl_Mo_143 rfl f1 d_Mo_call_33 ?_
    refine g_aload_n (pc := 36) hX d_Mo_call_36 rfl 2 rfl ?_
    refine g_getI (pc := 37) hX fl_Mo_85 rfl f1 d_Mo_call_37 ?_
    refine g_iload_n (pc := 40) hX d_Mo_call_40 rfl 1 rfl ?_
    obtain ⟨f6, h⟩ := h
    obtain ⟨f7, h⟩ := h
    refine g_iastore (pc := 41) hX f6 f7 d_Mo_call_41 ?_
    refine g_aload_n (pc := 42) hX d_Mo_call_42 rfl 2 rfl ?_
    refine g_getR (pc := 43) hX fl_Mo_146 rfl f1 d_Mo_call_43 ?_
    refine g_aload_n (pc := 46) hX d_Mo_call_46 rfl 2 rfl ?_
    refine g_getI (pc := 47) hX fl_Mo_85 rfl f1 d_Mo_call_47 ?_
    refine g_iload_n (pc := 50) hX d_Mo_call_50 rfl 0 rfl ?_
    obtain ⟨f8, h⟩ := h
    obtain ⟨f9, h⟩ := h
    refine g_iastore (pc := 51) hX f8 f9 d_Mo_call_51 ?_
    refine g_nm (fun A10 eA10 => ?_)
    have h := h A10 eA10
    refine g_aload_n (pc := 52) hX d_Mo_call_52 rfl 2 rfl ?_
    refine g_getR (pc := 53) hX fl_Mo_116 rfl f1 d_Mo_call_53 ?_
    refine g_aload_n (pc := 56) hX d_Mo_call_56 rfl 2 rfl ?_
    refine g_getI (pc := 57) hX fl_Mo_85 rfl f1 d_Mo_call_57 ?_
    refine g_aload_n (pc := 60) hX d_Mo_call_60 rfl 2 rfl ?_
    refine g_getR (pc := 61) hX fl_Mo_101 rfl f1 d_Mo_call_61 ?_
    refine g_iload_n (pc := 64) hX d_Mo_call_64 rfl 0 rfl ?_
    obtain ⟨f11, h⟩ := h
    obtain ⟨f12, h⟩ := h
    refine g_daload (pc := 65) hX f11 f12 d_Mo_call_65 ?_
    obtain ⟨f13, h⟩ := h
    obtain ⟨f14, h⟩ := h
    refine g_dastore (pc := 66) hX f13 f14 d_Mo_call_66 ?_
    refine g_nm (fun A15 eA15 => ?_)
    have h := h A15 eA15
    refine g_aload_n (pc := 67) hX d_Mo_call_67 rfl 2 rfl ?_
    refine g_dup (pc := 68) hX d_Mo_call_68 (cr_cat _ _) ?_
    refine g_getI (pc := 69) hX fl_Mo_85 rfl f1 d_Mo_call_69 ?_
    refine g_iconst (pc := 72) (v := 1) hX d_Mo_call_72 (by decide) ?_
    refine g_iadd (pc := 73) hX d_Mo_call_73 ?_
    refine g_putI (pc := 74) hX fl_Mo_85 rfl rfl rfl f1 d_Mo_call_74 ?_
    refine g_aload_n (pc := 77) hX d_Mo_call_77 rfl 2 rfl ?_
    refine g_dup (pc := 78) hX d_Mo_call_78 (cr_cat _ _) ?_
    refine g_getI (pc := 79) hX fl_Mo_88 rfl f1 d_Mo_call_79 ?_
    refine g_iconst (pc := 82) (v := 1) hX d_Mo_call_82 (by decide) ?_
    refine g_isub (pc := 83) hX d_Mo_call_83 ?_
    refine g_putI (pc := 84) hX fl_Mo_88 rfl rfl rfl f1 d_Mo_call_84 ?_
    refine g_aload_n (pc := 87) hX d_Mo_call_87 rfl 2 rfl ?_
    refine g_getR (pc := 88) hX fl_Mo_101 rfl f1 d_Mo_call_88 ?_
    refine g_iload_n (pc := 91) hX d_Mo_call_91 rfl 0 rfl ?_
    refine g_aload_n (pc := 92) hX d_Mo_call_92 rfl 2 rfl ?_
    refine g_getR (pc := 93) hX fl_Mo_104 rfl f1 d_Mo_call_93 ?_
    refine g_aload_n (pc := 96) hX d_Mo_call_96 rfl 2 rfl ?_
    refine g_getI (pc := 97) hX fl_Mo_88 rfl f1 d_Mo_call_97 ?_
    obtain ⟨f16, h⟩ := h
    obtain ⟨f17, h⟩ := h
    refine g_daload (pc := 100) hX f16 f17 d_Mo_call_100 ?_
    obtain ⟨f18, h⟩ := h
    obtain ⟨f19, h⟩ := h
    refine g_dastore (pc := 101) hX f18 f19 d_Mo_call_101 ?_
    refine g_nm (fun A20 eA20 => ?_)
    have h := h A20 eA20
    refine g_aload_n (pc := 102) hX d_Mo_call_102 rfl 2 rfl ?_
    refine g_getR (pc := 103) hX fl_Mo_52 rfl f1 d_Mo_call_103 ?_
    refine g_aload_n (pc := 106) hX d_Mo_call_106 rfl 2 rfl ?_
    refine g_getR (pc := 107) hX fl_Mo_125 rfl f1 d_Mo_call_107 ?_
    refine g_iload_n (pc := 110) hX d_Mo_call_110 rfl 3 rfl ?_
    obtain ⟨f21, h⟩ := h
    obtain ⟨f22, h⟩ := h
    refine g_iaload (pc := 111) hX f21 f22 d_Mo_call_111 ?_
    refine g_iconst (pc := 112) (v := 4) hX d_Mo_call_112 (by decide) ?_
    refine g_imul (pc := 113) hX d_Mo_call_113 ?_
    obtain ⟨f23, h⟩ := h
    obtain ⟨f24, h⟩ := h
    refine g_iaload (pc := 114) hX f23 f24 d_Mo_call_114 ?_
    exact g_iret hX hQ h d_Mo_call_115
  · have h := h.2 q
    refine g_aload_n (pc := 8) hX d_Mo_call_8 rfl 0 rfl ?_
    refine g_iconst (pc := 9) (v := 2) hX d_Mo_call_9 (by decide) ?_
    refine g_putI (pc := 10) hX fl_Mo_94 rfl rfl rfl f1 d_Mo_call_10 ?_
    refine g_iload_n (pc := 13) hX d_Mo_call_13 rfl 2 rfl ?_
    exact g_iret hX hQ h d_Mo_call_14
def wp_Mo_leave (o : Nat) (A : Mem) (K : Mem → Prop) : Prop := kd o = 9 ∧ kd (gR (sI A o 24 ((gI A o 24) - 1)) o 44) = 51 ∧ vp_in (gI (sI A o 24 ((gI A o 24) - 1)) o 24) (al (gR (sI A o 24 ((gI A o 24) - 1)) o 44)) ∧ kd (gR (sI A o 24 ((gI A o 24) - 1)) o 34) = 53 ∧ vp_in (gI (sI A o 24 ((gI A o 24) - 1)) o 24) (al (gR (sI A o 24 ((gI A o 24) - 1)) o 34)) ∧ kd (gR (sI A o 24 ((gI A o 24) - 1)) o 29) = 53 ∧ vp_in (gI (sI A o 24 ((gI A o 24) - 1)) (gR (sI A o 24 ((gI A o 24) - 1)) o 44) (Int32.toNatClampNeg (gI (sI A o 24 ((gI A o 24) - 1)) o 24))) (al (gR (sI A o 24 ((gI A o 24) - 1)) o 29)) ∧ ∀ A8 : Mem, A8 = (sD (sI A o 24 ((gI A o 24) - 1)) (gR (sI A o 24 ((gI A o 24) - 1)) o 29) (Int32.toNatClampNeg (gI (sI A o 24 ((gI A o 24) - 1)) (gR (sI A o 24 ((gI A o 24) - 1)) o 44) (Int32.toNatClampNeg (gI (sI A o 24 ((gI A o 24) - 1)) o 24)))) (gD (sI A o 24 ((gI A o 24) - 1)) (gR (sI A o 24 ((gI A o 24) - 1)) o 34) (Int32.toNatClampNeg (gI (sI A o 24 ((gI A o 24) - 1)) o 24)))) → K A8
set_option maxRecDepth 100000 in
set_option maxHeartbeats 4000000 in
theorem c_Mo_leave (o : Nat) (A : Mem) (K : Mem → Prop) (h : wp_Mo_leave o A K) : CtV y_Mo_leave prog_14_method_56_code 1 0 0 (fun E => [cr E o]) A K := by
  refine ctV_of "BasicMachineModel" (by decide) rfl (fun E => [(0, cr E o)]) (fun E => by simp [lg_sl, cr_cat, ca_i, ca_l, ca_d]) (fun E => by simp [lv_args, cr_cat, ca_i, ca_l, ca_d]) (fun X E hX hR hN hQ => ?_)
  unfold wp_Mo_leave at h
  refine g_aload_n (pc := 0) hX d_Mo_leave_0 rfl 0 rfl ?_
  refine g_dup (pc := 1) hX d_Mo_leave_1 (cr_cat _ _) ?_
  obtain ⟨f1, h⟩ := h
  refine g_getI (pc := 2) hX fl_Mo_85 rfl f1 d_Mo_leave_2 ?_
  refine g_iconst (pc := 5) (v := 1) hX d_Mo_leave_5 (by decide) ?_
  refine g_isub (pc := 6) hX d_Mo_leave_6 ?_
  refine g_putI (pc := 7) hX fl_Mo_85 rfl rfl rfl f1 d_Mo_leave_7 ?_
  refine g_aload_n (pc := 10) hX d_Mo_leave_10 rfl 0 rfl ?_
  refine g_getR (pc := 11) hX fl_Mo_101 rfl f1 d_Mo_leave_11 ?_
  refine g_aload_n (pc := 14) hX d_Mo_leave_14 rfl 0 rfl ?_
  refine g_getR (pc := 15) hX fl_Mo_146 rfl f1 d_Mo_leave_15 ?_
  refine g_aload_n (pc := 18) hX d_Mo_leave_18 rfl 0 rfl ?_
  refine g_getI (pc := 19) hX fl_Mo_85 rfl f1 d_Mo_leave_19 ?_
  obtain ⟨f2, h⟩ := h
  obtain ⟨f3, h⟩ := h
  refine g_iaload (pc := 22) hX f2 f3 d_Mo_leave_22 ?_
  refine g_aload_n (pc := 23) hX d_Mo_leave_23 rfl 0 rfl ?_
  refine g_getR (pc := 24) hX fl_Mo_116 rfl f1 d_Mo_leave_24 ?_
  refine g_aload_n (pc := 27) hX d_Mo_leave_27 rfl 0 rfl ?_
  refine g_getI (pc := 28) hX fl_Mo_85 rfl f1 d_Mo_leave_28 ?_
  obtain ⟨f4, h⟩ := h
  obtain ⟨f5, h⟩ := h
  refine g_daload (pc := 31) hX f4 f5 d_Mo_leave_31 ?_
  obtain ⟨f6, h⟩ := h
  obtain ⟨f7, h⟩ := h
  refine g_dastore (pc := 32) hX f6 f7 d_Mo_leave_32 ?_
  refine g_nm (fun A8 eA8 => ?_)
  have h := h A8 eA8
  exact g_vret hX hQ h d_Mo_leave_33
def wp_Mo_operate (o : Nat) (p1 : Int32) (p2 : Int32) (A : Mem) (K : Int32 → Mem → Prop) : Prop := kd o = 9 ∧ kd (gR A o 14) = 51 ∧ vp_in (p2 + 1) (al (gR A o 14)) ∧ ((¬ p1 = 0 → ((¬ p1 = 1 → ((¬ p1 = 2 → ((8 ≤ p1 → ((12 ≤ p1 → ((¬ p1 = 13 → kd (gR A o 37) = 51 ∧ vp_in (gI A (gR A o 14) (Int32.toNatClampNeg (p2 + 1))) (al (gR A o 37)) ∧ ((0 ≤ (gI A (gR A o 37) (Int32.toNatClampNeg (gI A (gR A o 14) (Int32.toNatClampNeg (p2 + 1))))) → K (p2 + 2) A) ∧ (¬ 0 ≤ (gI A (gR A o 37) (Int32.toNatClampNeg (gI A (gR A o 14) (Int32.toNatClampNeg (p2 + 1))))) → K (p2 + 2) (sI A o 27 3)))) ∧ (p1 = 13 → wp_Mo_call o (gI A (gR A o 14) (Int32.toNatClampNeg (p2 + 1))) (p2 + 2) A (fun (r7 : Int32) (A6 : Mem) => K r7 A6)))) ∧ (¬ 12 ≤ p1 → kd (gR A o 30) = 53 ∧ vp_in ((gI A o 25) - 1) (al (gR A o 30)) ∧ wp_Mo_one o p1 (gD A (gR A o 30) (Int32.toNatClampNeg ((gI A o 25) - 1))) A (fun (r11 : UInt64) (A10 : Mem) => K (p2 + 1) (sD A10 (gR A o 30) (Int32.toNatClampNeg ((gI A o 25) - 1)) r11))))) ∧ (¬ 8 ≤ p1 → kd (gR (sI A o 25 ((gI A o 25) - 1)) o 30) = 53 ∧ vp_in ((gI (sI A o 25 ((gI A o 25) - 1)) o 25) - 1) (al (gR (sI A o 25 ((gI A o 25) - 1)) o 30)) ∧ vp_in (gI (sI A o 25 ((gI A o 25) - 1)) o 25) (al (gR (sI A o 25 ((gI A o 25) - 1)) o 30)) ∧ wp_Mo_two o p1 (gD (sI A o 25 ((gI A o 25) - 1)) (gR (sI A o 25 ((gI A o 25) - 1)) o 30) (Int32.toNatClampNeg ((gI (sI A o 25 ((gI A o 25) - 1)) o 25) - 1))) (gD (sI A o 25 ((gI A o 25) - 1)) (gR (sI A o 25 ((gI A o 25) - 1)) o 30) (Int32.toNatClampNeg (gI (sI A o 25 ((gI A o 25) - 1)) o 25))) (sI A o 25 ((gI A o 25) - 1)) (fun (r16 : UInt64) (A15 : Mem) => ∀ A17 : Mem, A17 = (sD A15 (gR (sI A o 25 ((gI A o 25) - 1)) o 30) (Int32.toNatClampNeg ((gI (sI A o 25 ((gI A o 25) - 1)) o 25) - 1)) r16) → K (p2 + 1) A17)))) ∧ (p1 = 2 → kd (gR (sI A o 25 ((gI A o 25) - 1)) o 30) = 53 ∧ vp_in ((gI (sI A o 25 ((gI A o 25) - 1)) o 25) - 1) (al (gR (sI A o 25 ((gI A o 25) - 1)) o 30)) ∧ vp_in (gI (sI A o 25 ((gI A o 25) - 1)) o 25) (al (gR (sI A o 25 ((gI A o 25) - 1)) o 30)) ∧ wp_Mo_placeOf o (gI A (gR A o 14) (Int32.toNatClampNeg (p2 + 1))) (gD (sI A o 25 ((gI A o 25) - 1)) (gR (sI A o 25 ((gI A o 25) - 1)) o 30) (Int32.toNatClampNeg ((gI (sI A o 25 ((gI A o 25) - 1)) o 25) - 1))) (gD (sI A o 25 ((gI A o 25) - 1)) (gR (sI A o 25 ((gI A o 25) - 1)) o 30) (Int32.toNatClampNeg (gI (sI A o 25 ((gI A o 25) - 1)) o 25))) (sI A o 25 ((gI A o 25) - 1)) (fun (r22 : Int32) (A21 : Mem) => ((r22 < 0 → K (p2 + 2) A21) ∧ (¬ r22 < 0 → kd (gR A21 o 35) = 53 ∧ vp_in r22 (al (gR A21 o 35)) ∧ kd (gR A21 o 30) = 53 ∧ vp_in ((gI A21 o 25) - 1) (al (gR A21 o 30)) ∧ ∀ A27 : Mem, A27 = (sD A21 (gR A21 o 30) (Int32.toNatClampNeg ((gI A21 o 25) - 1)) (gD A21 (gR A21 o 35) (Int32.toNatClampNeg r22))) → K (p2 + 2) A27)))))) ∧ (p1 = 1 → kd (gR A o 29) = 53 ∧ vp_in (gI A (gR A o 14) (Int32.toNatClampNeg (p2 + 1))) (al (gR A o 29)) ∧ kd (gR A o 30) = 53 ∧ vp_in (gI A o 25) (al (gR A o 30)) ∧ ∀ A32 : Mem, A32 = (sD A (gR A o 30) (Int32.toNatClampNeg (gI A o 25)) (gD A (gR A o 29) (Int32.toNatClampNeg (gI A (gR A o 14) (Int32.toNatClampNeg (p2 + 1)))))) → K (p2 + 2) (sI A32 o 25 ((gI A32 o 25) + 1))))) ∧ (p1 = 0 → wp_Mo_plain o (p2 + 1) A (fun (r34 : UInt64) (A33 : Mem) => kd (gR A o 30) = 53 ∧ vp_in (gI A o 25) (al (gR A o 30)) ∧ ∀ A37 : Mem, A37 = (sI (sD A33 (gR A o 30) (Int32.toNatClampNeg (gI A o 25)) r34) o 25 ((gI (sD A33 (gR A o 30) (Int32.toNatClampNeg (gI A o 25)) r34) o 25) + 1)) → K (p2 + 3) A37)))
set_option maxRecDepth 100000 in
set_option maxHeartbeats 4000000 in
theorem c_Mo_operate (o : Nat) (p1 : Int32) (p2 : Int32) (A : Mem) (K : Int32 → Mem → Prop) (h : wp_Mo_operate o p1 p2 A K) : CtI y_Mo_operate prog_14_method_57_code 5 4 99 (fun E => [cr E o, .int (p1), .int (p2)]) A K := by
  refine ctI_of "BasicMachineModel" (by decide) rfl (fun E => [(0, cr E o), (1, .int (p1)), (2, .int (p2))]) (fun E => by simp [lg_sl, cr_cat, ca_i, ca_l, ca_d]) (fun E => by simp [lv_args, cr_cat, ca_i, ca_l, ca_d]) (fun X E hX hR hN hQ => ?_)
  unfold wp_Mo_operate at h
  refine g_aload_n (pc := 0) hX d_Mo_operate_0 rfl 0 rfl ?_
  obtain ⟨f1, h⟩ := h
  refine g_getR (pc := 1) hX fl_Mo_55 rfl f1 d_Mo_operate_1 ?_
  refine g_iload_n (pc := 4) hX d_Mo_operate_4 rfl 2 rfl ?_
  refine g_iconst (pc := 5) (v := 1) hX d_Mo_operate_5 (by decide) ?_
  refine g_iadd (pc := 6) hX d_Mo_operate_6 ?_
  obtain ⟨f2, h⟩ := h
  obtain ⟨f3, h⟩ := h
  refine g_iaload (pc := 7) hX f2 f3 d_Mo_operate_7 ?_
  refine g_istore_n (pc := 8) (lv0 := [(2, .int (p2)), (0, cr E o), (1, .int (p1))]) hX d_Mo_operate_8 rfl (by rw [hN]; decide) (g_st1b (ks := [2, 0, 1]) rfl rfl rfl rfl) ?_
  refine g_iload_n (pc := 9) hX d_Mo_operate_9 rfl 3 rfl ?_
  refine g_if_ne (pc := 10) (tgt := 43) hX d_Mo_operate_10 (by decide) (fun q => ?_) (fun q => ?_)
  · have h := h.1 q
    refine g_iload_n (pc := 43) hX d_Mo_operate_43 rfl 3 rfl ?_
    refine g_iconst (pc := 44) (v := 1) hX d_Mo_operate_44 (by decide) ?_
    refine g_icmp_ne (pc := 45) (tgt := 77) hX d_Mo_operate_45 (by decide) (fun q => ?_) (fun q => ?_)
    · have h := h.1 q
      refine g_iload_n (pc := 77) hX d_Mo_operate_77 rfl 3 rfl ?_
      refine g_iconst (pc := 78) (v := 2) hX d_Mo_operate_78 (by decide) ?_
      refine g_icmp_ne (pc := 79) (tgt := 146) hX d_Mo_operate_79 (by decide) (fun q => ?_) (fun q => ?_)
      · have h := h.1 q
        refine g_iload_n (pc := 146) hX d_Mo_operate_146 rfl 3 rfl ?_
        refine g_bipush (pc := 147) (v := 8) hX d_Mo_operate_147 (by decide) ?_
        refine g_icmp_ge (pc := 149) (tgt := 202) hX d_Mo_operate_149 (by decide) (fun q => ?_) (fun q => ?_)
        · have h := h.1 q
          refine g_iload_n (pc := 202) hX d_Mo_operate_202 rfl 3 rfl ?_
          refine g_bipush (pc := 203) (v := 12) hX d_Mo_operate_203 (by decide) ?_
          refine g_icmp_ge (pc := 205) (tgt := 239) hX d_Mo_operate_205 (by decide) (fun q => ?_) (fun q => ?_)
          · have h := h.1 q
            refine g_iload_n (pc := 239) hX d_Mo_operate_239 rfl 3 rfl ?_
            refine g_bipush (pc := 240) (v := 13) hX d_Mo_operate_240 (by decide) ?_
            refine g_icmp_ne (pc := 242) (tgt := 254) hX d_Mo_operate_242 (by decide) (fun q => ?_) (fun q => ?_)
            · have h := h.1 q
              refine g_aload_n (pc := 254) hX d_Mo_operate_254 rfl 2 rfl ?_
              refine g_getR (pc := 255) hX fl_Mo_125 rfl f1 d_Mo_operate_255 ?_
              refine g_iload_n (pc := 258) hX d_Mo_operate_258 rfl 0 rfl ?_
              obtain ⟨f4, h⟩ := h
              obtain ⟨f5, h⟩ := h
              refine g_iaload (pc := 259) hX f4 f5 d_Mo_operate_259 ?_
              refine g_if_ge (pc := 260) (tgt := 268) hX d_Mo_operate_260 (by decide) (fun q => ?_) (fun q => ?_)
              · have h := h.1 q
                refine g_iload_n (pc := 268) hX d_Mo_operate_268 rfl 1 rfl ?_
                refine g_iconst (pc := 269) (v := 2) hX d_Mo_operate_269 (by decide) ?_
                refine g_iadd (pc := 270) hX d_Mo_operate_270 ?_
                exact g_iret hX hQ h d_Mo_operate_271
              · have h := h.2 q
                refine g_aload_n (pc := 263) hX d_Mo_operate_263 rfl 2 rfl ?_
                refine g_iconst (pc := 264) (v := 3) hX d_Mo_operate_264 (by decide) ?_
                refine g_putI (pc := 265) hX fl_Mo_94 rfl rfl rfl f1 d_Mo_operate_265 ?_
                refine g_iload_n (pc := 268) hX d_Mo_operate_268 rfl 1 rfl ?_
                refine g_iconst (pc := 269) (v := 2) hX d_Mo_operate_269 (by decide) ?_
                refine g_iadd (pc := 270) hX d_Mo_operate_270 ?_
                exact g_iret hX hQ h d_Mo_operate_271
            · have h := h.2 q
              refine g_aload_n (pc := 245) hX d_Mo_operate_245 rfl 2 rfl ?_
              refine g_iload_n (pc := 246) hX d_Mo_operate_246 rfl 0 rfl ?_
              refine g_iload_n (pc := 247) hX d_Mo_operate_247 rfl 1 rfl ?_
              refine g_iconst (pc := 248) (v := 2) hX d_Mo_operate_248 (by decide) ?_
              refine g_iadd (pc := 249) hX d_Mo_operate_249 ?_
              refine g_callV_I (pc := 250) hX hR f1 cf9 rfl lk_Mo_380 mf_Mo_call (c_Mo_call _ _ _ _ _ h) rfl rfl rfl ⟨by decide, by decide⟩ (cat_sum _ (Nat.le_of_ble_eq_true rfl)) d_Mo_operate_250 (fun r7 A6 h => ?_)
              exact g_iret hX hQ h d_Mo_operate_253
          · have h := h.2 q
            refine g_aload_n (pc := 208) hX d_Mo_operate_208 rfl 2 rfl ?_
            refine g_getR (pc := 209) hX fl_Mo_104 rfl f1 d_Mo_operate_209 ?_
            refine g_aload_n (pc := 212) hX d_Mo_operate_212 rfl 2 rfl ?_
            refine g_getI (pc := 213) hX fl_Mo_88 rfl f1 d_Mo_operate_213 ?_
            refine g_iconst (pc := 216) (v := 1) hX d_Mo_operate_216 (by decide) ?_
            refine g_isub (pc := 217) hX d_Mo_operate_217 ?_
            refine g_aload_n (pc := 218) hX d_Mo_operate_218 rfl 2 rfl ?_
            refine g_iload_n (pc := 219) hX d_Mo_operate_219 rfl 3 rfl ?_
            refine g_aload_n (pc := 220) hX d_Mo_operate_220 rfl 2 rfl ?_
            refine g_getR (pc := 221) hX fl_Mo_104 rfl f1 d_Mo_operate_221 ?_
            refine g_aload_n (pc := 224) hX d_Mo_operate_224 rfl 2 rfl ?_
            refine g_getI (pc := 225) hX fl_Mo_88 rfl f1 d_Mo_operate_225 ?_
            refine g_iconst (pc := 228) (v := 1) hX d_Mo_operate_228 (by decide) ?_
            refine g_isub (pc := 229) hX d_Mo_operate_229 ?_
            obtain ⟨f8, h⟩ := h
            obtain ⟨f9, h⟩ := h
            refine g_daload (pc := 230) hX f8 f9 d_Mo_operate_230 ?_
            refine g_callV_D (pc := 231) hX hR f1 cf9 rfl lk_Mo_376 mf_Mo_one (c_Mo_one _ _ _ _ _ h) rfl rfl rfl ⟨by decide, by decide⟩ (cat_sum _ (Nat.le_of_ble_eq_true rfl)) d_Mo_operate_231 (fun r11 A10 h => ?_)
            refine g_dastore (pc := 234) hX f8 f9 d_Mo_operate_234 ?_
            refine g_iload_n (pc := 235) hX d_Mo_operate_235 rfl 1 rfl ?_
            refine g_iconst (pc := 236) (v := 1) hX d_Mo_operate_236 (by decide) ?_
            refine g_iadd (pc := 237) hX d_Mo_operate_237 ?_
            exact g_iret hX hQ h d_Mo_operate_238
        · have h := h.2 q
          refine g_aload_n (pc := 152) hX d_Mo_operate_152 rfl 2 rfl ?_
          refine g_dup (pc := 153) hX d_Mo_operate_153 (cr_cat _ _) ?_
          refine g_getI (pc := 154) hX fl_Mo_88 rfl f1 d_Mo_operate_154 ?_
          refine g_iconst (pc := 157) (v := 1) hX d_Mo_operate_157 (by decide) ?_
          refine g_isub (pc := 158) hX d_Mo_operate_158 ?_
          refine g_putI (pc := 159) hX fl_Mo_88 rfl rfl rfl f1 d_Mo_operate_159 ?_
          refine g_aload_n (pc := 162) hX d_Mo_operate_162 rfl 2 rfl ?_
          refine g_getR (pc := 163) hX fl_Mo_104 rfl f1 d_Mo_operate_163 ?_
          refine g_aload_n (pc := 166) hX d_Mo_operate_166 rfl 2 rfl ?_
          refine g_getI (pc := 167) hX fl_Mo_88 rfl f1 d_Mo_operate_167 ?_
          refine g_iconst (pc := 170) (v := 1) hX d_Mo_operate_170 (by decide) ?_
          refine g_isub (pc := 171) hX d_Mo_operate_171 ?_
          refine g_aload_n (pc := 172) hX d_Mo_operate_172 rfl 2 rfl ?_
          refine g_iload_n (pc := 173) hX d_Mo_operate_173 rfl 3 rfl ?_
          refine g_aload_n (pc := 174) hX d_Mo_operate_174 rfl 2 rfl ?_
          refine g_getR (pc := 175) hX fl_Mo_104 rfl f1 d_Mo_operate_175 ?_
          refine g_aload_n (pc := 178) hX d_Mo_operate_178 rfl 2 rfl ?_
          refine g_getI (pc := 179) hX fl_Mo_88 rfl f1 d_Mo_operate_179 ?_
          refine g_iconst (pc := 182) (v := 1) hX d_Mo_operate_182 (by decide) ?_
          refine g_isub (pc := 183) hX d_Mo_operate_183 ?_
          obtain ⟨f12, h⟩ := h
          obtain ⟨f13, h⟩ := h
          refine g_daload (pc := 184) hX f12 f13 d_Mo_operate_184 ?_
          refine g_aload_n (pc := 185) hX d_Mo_operate_185 rfl 2 rfl ?_
          refine g_getR (pc := 186) hX fl_Mo_104 rfl f1 d_Mo_operate_186 ?_
          refine g_aload_n (pc := 189) hX d_Mo_operate_189 rfl 2 rfl ?_
          refine g_getI (pc := 190) hX fl_Mo_88 rfl f1 d_Mo_operate_190 ?_
          obtain ⟨f14, h⟩ := h
          refine g_daload (pc := 193) hX f12 f14 d_Mo_operate_193 ?_
          refine g_callV_D (pc := 194) hX hR f1 cf9 rfl lk_Mo_372 mf_Mo_two (c_Mo_two _ _ _ _ _ _ h) rfl rfl rfl ⟨by decide, by decide⟩ (cat_sum _ (Nat.le_of_ble_eq_true rfl)) d_Mo_operate_194 (fun r16 A15 h => ?_)
          refine g_dastore (pc := 197) hX f12 f13 d_Mo_operate_197 ?_
          refine g_nm (fun A17 eA17 => ?_)
          have h := h A17 eA17
          refine g_iload_n (pc := 198) hX d_Mo_operate_198 rfl 1 rfl ?_
          refine g_iconst (pc := 199) (v := 1) hX d_Mo_operate_199 (by decide) ?_
          refine g_iadd (pc := 200) hX d_Mo_operate_200 ?_
          exact g_iret hX hQ h d_Mo_operate_201
      · have h := h.2 q
        refine g_aload_n (pc := 82) hX d_Mo_operate_82 rfl 2 rfl ?_
        refine g_dup (pc := 83) hX d_Mo_operate_83 (cr_cat _ _) ?_
        refine g_getI (pc := 84) hX fl_Mo_88 rfl f1 d_Mo_operate_84 ?_
        refine g_iconst (pc := 87) (v := 1) hX d_Mo_operate_87 (by decide) ?_
        refine g_isub (pc := 88) hX d_Mo_operate_88 ?_
        refine g_putI (pc := 89) hX fl_Mo_88 rfl rfl rfl f1 d_Mo_operate_89 ?_
        refine g_aload_n (pc := 92) hX d_Mo_operate_92 rfl 2 rfl ?_
        refine g_iload_n (pc := 93) hX d_Mo_operate_93 rfl 0 rfl ?_
        refine g_aload_n (pc := 94) hX d_Mo_operate_94 rfl 2 rfl ?_
        refine g_getR (pc := 95) hX fl_Mo_104 rfl f1 d_Mo_operate_95 ?_
        refine g_aload_n (pc := 98) hX d_Mo_operate_98 rfl 2 rfl ?_
        refine g_getI (pc := 99) hX fl_Mo_88 rfl f1 d_Mo_operate_99 ?_
        refine g_iconst (pc := 102) (v := 1) hX d_Mo_operate_102 (by decide) ?_
        refine g_isub (pc := 103) hX d_Mo_operate_103 ?_
        obtain ⟨f18, h⟩ := h
        obtain ⟨f19, h⟩ := h
        refine g_daload (pc := 104) hX f18 f19 d_Mo_operate_104 ?_
        refine g_aload_n (pc := 105) hX d_Mo_operate_105 rfl 2 rfl ?_
        refine g_getR (pc := 106) hX fl_Mo_104 rfl f1 d_Mo_operate_106 ?_
        refine g_aload_n (pc := 109) hX d_Mo_operate_109 rfl 2 rfl ?_
        refine g_getI (pc := 110) hX fl_Mo_88 rfl f1 d_Mo_operate_110 ?_
        obtain ⟨f20, h⟩ := h
        refine g_daload (pc := 113) hX f18 f20 d_Mo_operate_113 ?_
        refine g_callV_I (pc := 114) hX hR f1 cf9 rfl lk_Mo_368 mf_Mo_placeOf (c_Mo_placeOf _ _ _ _ _ _ h) rfl rfl rfl ⟨by decide, by decide⟩ (cat_sum _ (Nat.le_of_ble_eq_true rfl)) d_Mo_operate_114 (fun r22 A21 h => ?_)
        refine g_istore (pc := 117) (lv0 := [(3, .int ((gI A (gR A o 14) (Int32.toNatClampNeg (p2 + 1))))), (2, .int (p2)), (0, cr E o), (1, .int (p1))]) hX d_Mo_operate_117 (by rw [hN]; decide) (g_st1b (ks := [0, 1, 2, 3]) rfl rfl rfl rfl) ?_
        refine g_iload (pc := 119) hX d_Mo_operate_119 0 rfl ?_
        refine g_if_lt (pc := 121) (tgt := 142) hX d_Mo_operate_121 (by decide) (fun q => ?_) (fun q => ?_)
        · have h := h.1 q
          refine g_iload_n (pc := 142) hX d_Mo_operate_142 rfl 2 rfl ?_
          refine g_iconst (pc := 143) (v := 2) hX d_Mo_operate_143 (by decide) ?_
          refine g_iadd (pc := 144) hX d_Mo_operate_144 ?_
          exact g_iret hX hQ h d_Mo_operate_145
        · have h := h.2 q
          refine g_aload_n (pc := 124) hX d_Mo_operate_124 rfl 3 rfl ?_
          refine g_getR (pc := 125) hX fl_Mo_104 rfl f1 d_Mo_operate_125 ?_
          refine g_aload_n (pc := 128) hX d_Mo_operate_128 rfl 3 rfl ?_
          refine g_getI (pc := 129) hX fl_Mo_88 rfl f1 d_Mo_operate_129 ?_
          refine g_iconst (pc := 132) (v := 1) hX d_Mo_operate_132 (by decide) ?_
          refine g_isub (pc := 133) hX d_Mo_operate_133 ?_
          refine g_aload_n (pc := 134) hX d_Mo_operate_134 rfl 3 rfl ?_
          refine g_getR (pc := 135) hX fl_Mo_119 rfl f1 d_Mo_operate_135 ?_
          refine g_iload (pc := 138) hX d_Mo_operate_138 0 rfl ?_
          obtain ⟨f23, h⟩ := h
          obtain ⟨f24, h⟩ := h
          refine g_daload (pc := 140) hX f23 f24 d_Mo_operate_140 ?_
          obtain ⟨f25, h⟩ := h
          obtain ⟨f26, h⟩ := h
          refine g_dastore (pc := 141) hX f25 f26 d_Mo_operate_141 ?_
          refine g_nm (fun A27 eA27 => ?_)
          have h := h A27 eA27
          refine g_iload_n (pc := 142) hX d_Mo_operate_142 rfl 2 rfl ?_
          refine g_iconst (pc := 143) (v := 2) hX d_Mo_operate_143 (by decide) ?_
          refine g_iadd (pc := 144) hX d_Mo_operate_144 ?_
          exact g_iret hX hQ h d_Mo_operate_145
    · have h := h.2 q
      refine g_aload_n (pc := 48) hX d_Mo_operate_48 rfl 2 rfl ?_
      refine g_getR (pc := 49) hX fl_Mo_104 rfl f1 d_Mo_operate_49 ?_
      refine g_aload_n (pc := 52) hX d_Mo_operate_52 rfl 2 rfl ?_
      refine g_getI (pc := 53) hX fl_Mo_88 rfl f1 d_Mo_operate_53 ?_
      refine g_aload_n (pc := 56) hX d_Mo_operate_56 rfl 2 rfl ?_
      refine g_getR (pc := 57) hX fl_Mo_101 rfl f1 d_Mo_operate_57 ?_
      refine g_iload_n (pc := 60) hX d_Mo_operate_60 rfl 0 rfl ?_
      obtain ⟨f28, h⟩ := h
      obtain ⟨f29, h⟩ := h
      refine g_daload (pc := 61) hX f28 f29 d_Mo_operate_61 ?_
      obtain ⟨f30, h⟩ := h
      obtain ⟨f31, h⟩ := h
      refine g_dastore (pc := 62) hX f30 f31 d_Mo_operate_62 ?_
      refine g_nm (fun A32 eA32 => ?_)
      have h := h A32 eA32
      refine g_aload_n (pc := 63) hX d_Mo_operate_63 rfl 2 rfl ?_
      refine g_dup (pc := 64) hX d_Mo_operate_64 (cr_cat _ _) ?_
      refine g_getI (pc := 65) hX fl_Mo_88 rfl f1 d_Mo_operate_65 ?_
      refine g_iconst (pc := 68) (v := 1) hX d_Mo_operate_68 (by decide) ?_
      refine g_iadd (pc := 69) hX d_Mo_operate_69 ?_
      refine g_putI (pc := 70) hX fl_Mo_88 rfl rfl rfl f1 d_Mo_operate_70 ?_
      refine g_iload_n (pc := 73) hX d_Mo_operate_73 rfl 1 rfl ?_
      refine g_iconst (pc := 74) (v := 2) hX d_Mo_operate_74 (by decide) ?_
      refine g_iadd (pc := 75) hX d_Mo_operate_75 ?_
      exact g_iret hX hQ h d_Mo_operate_76
  · have h := h.2 q
    refine g_aload_n (pc := 13) hX d_Mo_operate_13 rfl 2 rfl ?_
    refine g_getR (pc := 14) hX fl_Mo_104 rfl f1 d_Mo_operate_14 ?_
    refine g_aload_n (pc := 17) hX d_Mo_operate_17 rfl 2 rfl ?_
    refine g_getI (pc := 18) hX fl_Mo_88 rfl f1 d_Mo_operate_18 ?_
    refine g_aload_n (pc := 21) hX d_Mo_operate_21 rfl 2 rfl ?_
    refine g_iload_n (pc := 22) hX d_Mo_operate_22 rfl 1 rfl ?_
    refine g_iconst (pc := 23) (v := 1) hX d_Mo_operate_23 (by decide) ?_
    refine g_iadd (pc := 24) hX d_Mo_operate_24 ?_
    refine g_callV_D (pc := 25) hX hR f1 cf9 rfl lk_Mo_364 mf_Mo_plain (c_Mo_plain _ _ _ _ h) rfl rfl rfl ⟨by decide, by decide⟩ (cat_sum _ (Nat.le_of_ble_eq_true rfl)) d_Mo_operate_25 (fun r34 A33 h => ?_)
    obtain ⟨f35, h⟩ := h
    obtain ⟨f36, h⟩ := h
    refine g_dastore (pc := 28) hX f35 f36 d_Mo_operate_28 ?_
    refine g_aload_n (pc := 29) hX d_Mo_operate_29 rfl 2 rfl ?_
    refine g_dup (pc := 30) hX d_Mo_operate_30 (cr_cat _ _) ?_
    refine g_getI (pc := 31) hX fl_Mo_88 rfl f1 d_Mo_operate_31 ?_
    refine g_iconst (pc := 34) (v := 1) hX d_Mo_operate_34 (by decide) ?_
    refine g_iadd (pc := 35) hX d_Mo_operate_35 ?_
    refine g_putI (pc := 36) hX fl_Mo_88 rfl rfl rfl f1 d_Mo_operate_36 ?_
    refine g_nm (fun A37 eA37 => ?_)
    have h := h A37 eA37
    refine g_iload_n (pc := 39) hX d_Mo_operate_39 rfl 1 rfl ?_
    refine g_iconst (pc := 40) (v := 3) hX d_Mo_operate_40 (by decide) ?_
    refine g_iadd (pc := 41) hX d_Mo_operate_41 ?_
    exact g_iret hX hQ h d_Mo_operate_42
def wp_Mo_work_c76 (K : UInt64 → Mem → Prop) : Nat → Nat → Mem → Prop
  | 0, _, _ => False
  | n + 1, x0, A => kd x0 = 9 ∧ (((gI A x0 24) ≤ 0 → K FP.dconst0 A) ∧ (¬ (gI A x0 24) ≤ 0 → wp_Mo_leave x0 A (fun (A13 : Mem) => wp_Mo_work_c76 K n x0 A13)))
def wp_Mo_work_c12 (K : UInt64 → Mem → Prop) : Nat → Nat → Int32 → Mem → Prop
  | 0, _, _, _ => False
  | n + 1, x0, x2, A => kd x0 = 9 ∧ ((¬ (gI A x0 27) = 0 → (∃ n9 : Nat, wp_Mo_work_c76 K n9 x0 A)) ∧ ((gI A x0 27) = 0 → kd (gR A x0 14) = 51 ∧ vp_in x2 (al (gR A x0 14)) ∧ (((gI A (gR A x0 14) (Int32.toNatClampNeg x2)) = 14 → ((¬ (gI A x0 24) = 0 → wp_Mo_leave x0 A (fun (A5 : Mem) => kd (gR A5 x0 43) = 51 ∧ vp_in (gI A5 x0 24) (al (gR A5 x0 43)) ∧ wp_Mo_work_c12 K n x0 (gI A5 (gR A5 x0 43) (Int32.toNatClampNeg (gI A5 x0 24))) A5)) ∧ ((gI A x0 24) = 0 → kd (gR A x0 30) = 53 ∧ vp_in 0 (al (gR A x0 30)) ∧ K (gD A (gR A x0 30) (Int32.toNatClampNeg 0)) A))) ∧ (¬ (gI A (gR A x0 14) (Int32.toNatClampNeg x2)) = 14 → wp_Mo_operate x0 (gI A (gR A x0 14) (Int32.toNatClampNeg x2)) x2 A (fun (r11 : Int32) (A10 : Mem) => wp_Mo_work_c12 K n x0 r11 A10)))))
def wp_Mo_work (o : Nat) (p1 : Int32) (A : Mem) (K : UInt64 → Mem → Prop) : Prop := kd o = 9 ∧ (∃ n9 : Nat, wp_Mo_work_c12 K n9 o p1 (sI (sI A o 25 0) o 24 0))
set_option maxRecDepth 100000 in
set_option maxHeartbeats 4000000 in
theorem k_Mo_work_c76 {X : CXT} {E : EVT} {K : UInt64 → Mem → Prop} (hX : Gd X E "BasicMachineModel" prog_14_method_58_code) (hR : Rm X 5 123) (hN : xnL X = 3) (hQ : QD X E K) : ∀ (n : Nat) (x0 : Nat) (A : Mem), wp_Mo_work_c76 K n x0 A → G X E A 76 [(0, cr E x0)] [] := by
  intro n
  induction n with
  | zero => intro x0 A h; exact h.elim
  | succ n ih =>
    intro x0 A h
    rw [wp_Mo_work_c76] at h
    refine g_aload_n (pc := 76) hX d_Mo_work_76 rfl 0 rfl ?_
    obtain ⟨f12, h⟩ := h
    refine g_getI (pc := 77) hX fl_Mo_85 rfl f12 d_Mo_work_77 ?_
    refine g_if_le (pc := 80) (tgt := 90) hX d_Mo_work_80 (by decide) (fun q => ?_) (fun q => ?_)
    · have h := h.1 q
      refine g_dconst0 (pc := 90) hX d_Mo_work_90 ?_
      exact g_dret hX hQ h d_Mo_work_91
    · have h := h.2 q
      refine g_aload_n (pc := 83) hX d_Mo_work_83 rfl 0 rfl ?_
      refine g_callV_V (pc := 84) hX hR f12 cf9 rfl lk_Mo_386 mf_Mo_leave (c_Mo_leave _ _ _ h) rfl rfl rfl ⟨by decide, by decide⟩ (cat_sum _ (Nat.le_of_ble_eq_true rfl)) d_Mo_work_84 (fun A13 h => ?_)
      refine g_goto (pc := 87) (tgt := 76) hX d_Mo_work_87 (by decide) ?_
      refine g_sub [0] rfl ?_
      exact ih _ _ h
set_option maxRecDepth 100000 in
set_option maxHeartbeats 4000000 in
theorem k_Mo_work_c12 {X : CXT} {E : EVT} {K : UInt64 → Mem → Prop} (hX : Gd X E "BasicMachineModel" prog_14_method_58_code) (hR : Rm X 5 123) (hN : xnL X = 3) (hQ : QD X E K) : ∀ (n : Nat) (x0 : Nat) (x2 : Int32) (A : Mem), wp_Mo_work_c12 K n x0 x2 A → G X E A 12 [(0, cr E x0), (2, .int (x2))] [] := by
  intro n
  induction n with
  | zero => intro x0 x2 A h; exact h.elim
  | succ n ih =>
    intro x0 x2 A h
    rw [wp_Mo_work_c12] at h
    refine g_aload_n (pc := 12) hX d_Mo_work_12 rfl 0 rfl ?_
    obtain ⟨f2, h⟩ := h
    refine g_getI (pc := 13) hX fl_Mo_94 rfl f2 d_Mo_work_13 ?_
    refine g_if_ne (pc := 16) (tgt := 76) hX d_Mo_work_16 (by decide) (fun q => ?_) (fun q => ?_)
    · have h := h.1 q
      refine g_sub [0] rfl ?_
      obtain ⟨n9, h⟩ := h
      exact k_Mo_work_c76 hX hR hN hQ n9 _ _ h
    · have h := h.2 q
      refine g_aload_n (pc := 19) hX d_Mo_work_19 rfl 0 rfl ?_
      refine g_getR (pc := 20) hX fl_Mo_55 rfl f2 d_Mo_work_20 ?_
      refine g_iload_n (pc := 23) hX d_Mo_work_23 rfl 1 rfl ?_
      obtain ⟨f3, h⟩ := h
      obtain ⟨f4, h⟩ := h
      refine g_iaload (pc := 24) hX f3 f4 d_Mo_work_24 ?_
      refine g_bipush (pc := 25) (v := 14) hX d_Mo_work_25 (by decide) ?_
      refine g_icmp_eq (pc := 27) (tgt := 45) hX d_Mo_work_27 (by decide) (fun q => ?_) (fun q => ?_)
      · have h := h.1 q
        refine g_aload_n (pc := 45) hX d_Mo_work_45 rfl 0 rfl ?_
        refine g_getI (pc := 46) hX fl_Mo_85 rfl f2 d_Mo_work_46 ?_
        refine g_if_ne (pc := 49) (tgt := 59) hX d_Mo_work_49 (by decide) (fun q => ?_) (fun q => ?_)
        · have h := h.1 q
          refine g_aload_n (pc := 59) hX d_Mo_work_59 rfl 0 rfl ?_
          refine g_callV_V (pc := 60) hX hR f2 cf9 rfl lk_Mo_386 mf_Mo_leave (c_Mo_leave _ _ _ h) rfl rfl rfl ⟨by decide, by decide⟩ (cat_sum _ (Nat.le_of_ble_eq_true rfl)) d_Mo_work_60 (fun A5 h => ?_)
          refine g_aload_n (pc := 63) hX d_Mo_work_63 rfl 0 rfl ?_
          refine g_getR (pc := 64) hX fl_Mo_143 rfl f2 d_Mo_work_64 ?_
          refine g_aload_n (pc := 67) hX d_Mo_work_67 rfl 0 rfl ?_
          refine g_getI (pc := 68) hX fl_Mo_85 rfl f2 d_Mo_work_68 ?_
          obtain ⟨f6, h⟩ := h
          obtain ⟨f7, h⟩ := h
          refine g_iaload (pc := 71) hX f6 f7 d_Mo_work_71 ?_
          refine g_istore_n (pc := 72) (lv0 := [(0, cr E x0)]) hX d_Mo_work_72 rfl (by rw [hN]; decide) (g_st1 (ks := [0]) rfl rfl) ?_
          refine g_goto (pc := 73) (tgt := 12) hX d_Mo_work_73 (by decide) ?_
          refine g_sub [1, 0] rfl ?_
          exact ih _ _ _ h
        · have h := h.2 q
          refine g_aload_n (pc := 52) hX d_Mo_work_52 rfl 0 rfl ?_
          refine g_getR (pc := 53) hX fl_Mo_104 rfl f2 d_Mo_work_53 ?_
          refine g_iconst (pc := 56) (v := 0) hX d_Mo_work_56 (by decide) ?_
          obtain ⟨f8, h⟩ := h
          obtain ⟨f9, h⟩ := h
          refine g_daload (pc := 57) hX f8 f9 d_Mo_work_57 ?_
          exact g_dret hX hQ h d_Mo_work_58
      · have h := h.2 q
        refine g_aload_n (pc := 30) hX d_Mo_work_30 rfl 0 rfl ?_
        refine g_aload_n (pc := 31) hX d_Mo_work_31 rfl 0 rfl ?_
        refine g_getR (pc := 32) hX fl_Mo_55 rfl f2 d_Mo_work_32 ?_
        refine g_iload_n (pc := 35) hX d_Mo_work_35 rfl 1 rfl ?_
        refine g_iaload (pc := 36) hX f3 f4 d_Mo_work_36 ?_
        refine g_iload_n (pc := 37) hX d_Mo_work_37 rfl 1 rfl ?_
        refine g_callV_I (pc := 38) hX hR f2 cf9 rfl lk_Mo_383 mf_Mo_operate (c_Mo_operate _ _ _ _ _ h) rfl rfl rfl ⟨by decide, by decide⟩ (cat_sum _ (Nat.le_of_ble_eq_true rfl)) d_Mo_work_38 (fun r11 A10 h => ?_)
        refine g_istore_n (pc := 41) (lv0 := [(0, cr E x0)]) hX d_Mo_work_41 rfl (by rw [hN]; decide) (g_st1 (ks := [0]) rfl rfl) ?_
        refine g_goto (pc := 42) (tgt := 12) hX d_Mo_work_42 (by decide) ?_
        refine g_sub [1, 0] rfl ?_
        exact ih _ _ _ h
set_option maxRecDepth 100000 in
set_option maxHeartbeats 4000000 in
theorem c_Mo_work (o : Nat) (p1 : Int32) (A : Mem) (K : UInt64 → Mem → Prop) (h : wp_Mo_work o p1 A K) : CtD y_Mo_work prog_14_method_58_code 3 5 123 (fun E => [cr E o, .int (p1)]) A K := by
  refine ctD_of "BasicMachineModel" (by decide) rfl (fun E => [(0, cr E o), (1, .int (p1))]) (fun E => by simp [lg_sl, cr_cat, ca_i, ca_l, ca_d]) (fun E => by simp [lv_args, cr_cat, ca_i, ca_l, ca_d]) (fun X E hX hR hN hQ => ?_)
  unfold wp_Mo_work at h
  refine g_iload_n (pc := 0) hX d_Mo_work_0 rfl 1 rfl ?_
  refine g_istore_n (pc := 1) (lv0 := [(1, .int (p1)), (0, cr E o)]) hX d_Mo_work_1 rfl (by rw [hN]; decide) (g_st1b (ks := [1, 0]) rfl rfl rfl rfl) ?_
  refine g_aload_n (pc := 2) hX d_Mo_work_2 rfl 2 rfl ?_
  refine g_iconst (pc := 3) (v := 0) hX d_Mo_work_3 (by decide) ?_
  obtain ⟨f1, h⟩ := h
  refine g_putI (pc := 4) hX fl_Mo_88 rfl rfl rfl f1 d_Mo_work_4 ?_
  refine g_aload_n (pc := 7) hX d_Mo_work_7 rfl 2 rfl ?_
  refine g_iconst (pc := 8) (v := 0) hX d_Mo_work_8 (by decide) ?_
  refine g_putI (pc := 9) hX fl_Mo_85 rfl rfl rfl f1 d_Mo_work_9 ?_
  refine g_sub [2, 0] rfl ?_
  obtain ⟨n9, h⟩ := h
  exact k_Mo_work_c12 hX hR hN hQ n9 _ _ _ h
def wp_Mo_nextSlot_c4 (K : Int32 → Mem → Prop) : Nat → Nat → Int32 → Int32 → Int32 → Mem → Prop
  | 0, _, _, _, _, _ => False
  | n + 1, x0, x1, x2, x3, A => ((24 ≤ x3 → K x2 A) ∧ (¬ 24 ≤ x3 → kd x0 = 9 ∧ kd (gR A x0 10) = 51 ∧ vp_in x3 (al (gR A x0 10)) ∧ (((gI A (gR A x0 10) (Int32.toNatClampNeg x3)) ≤ x1 → wp_Mo_nextSlot_c4 K n x0 x1 x2 (x3 + 1) A) ∧ (¬ (gI A (gR A x0 10) (Int32.toNatClampNeg x3)) ≤ x1 → ((x2 < 0 → wp_Mo_nextSlot_c4 K n x0 x1 x3 (x3 + 1) A) ∧ (¬ x2 < 0 → vp_in x2 (al (gR A x0 10)) ∧ (((gI A (gR A x0 10) (Int32.toNatClampNeg x2)) ≤ (gI A (gR A x0 10) (Int32.toNatClampNeg x3)) → wp_Mo_nextSlot_c4 K n x0 x1 x2 (x3 + 1) A) ∧ (¬ (gI A (gR A x0 10) (Int32.toNatClampNeg x2)) ≤ (gI A (gR A x0 10) (Int32.toNatClampNeg x3)) → wp_Mo_nextSlot_c4 K n x0 x1 x3 (x3 + 1) A))))))))
def wp_Mo_nextSlot (o : Nat) (p1 : Int32) (A : Mem) (K : Int32 → Mem → Prop) : Prop := (∃ n9 : Nat, wp_Mo_nextSlot_c4 K n9 o p1 (-1) 0 A)
set_option maxRecDepth 100000 in
set_option maxHeartbeats 4000000 in
theorem k_Mo_nextSlot_c4 {X : CXT} {E : EVT} {K : Int32 → Mem → Prop} (hX : Gd X E "BasicMachineModel" prog_14_method_59_code) (hR : Rm X 0 0) (hN : xnL X = 4) (hQ : QI X E K) : ∀ (n : Nat) (x0 : Nat) (x1 : Int32) (x2 : Int32) (x3 : Int32) (A : Mem), wp_Mo_nextSlot_c4 K n x0 x1 x2 x3 A → G X E A 4 [(0, cr E x0), (1, .int (x1)), (2, .int (x2)), (3, .int (x3))] [] := by
  intro n
  induction n with
  | zero => intro x0 x1 x2 x3 A h; exact h.elim
  | succ n ih =>
    intro x0 x1 x2 x3 A h
    rw [wp_Mo_nextSlot_c4] at h
    refine g_iload_n (pc := 4) hX d_Mo_nextSlot_4 rfl 3 rfl ?_
    refine g_bipush (pc := 5) (v := 24) hX d_Mo_nextSlot_5 (by decide) ?_
    refine g_icmp_ge (pc := 7) (tgt := 47) hX d_Mo_nextSlot_7 (by decide) (fun q => ?_) (fun q => ?_)
    · have h := h.1 q
      refine g_iload_n (pc := 47) hX d_Mo_nextSlot_47 rfl 2 rfl ?_
      exact g_iret hX hQ h d_Mo_nextSlot_48
    · have h := h.2 q
      refine g_aload_n (pc := 10) hX d_Mo_nextSlot_10 rfl 0 rfl ?_
      obtain ⟨f1, h⟩ := h
      refine g_getR (pc := 11) hX fl_Mo_42 rfl f1 d_Mo_nextSlot_11 ?_
      refine g_iload_n (pc := 14) hX d_Mo_nextSlot_14 rfl 3 rfl ?_
      obtain ⟨f2, h⟩ := h
      obtain ⟨f3, h⟩ := h
      refine g_iaload (pc := 15) hX f2 f3 d_Mo_nextSlot_15 ?_
      refine g_iload_n (pc := 16) hX d_Mo_nextSlot_16 rfl 1 rfl ?_
      refine g_icmp_le (pc := 17) (tgt := 41) hX d_Mo_nextSlot_17 (by decide) (fun q => ?_) (fun q => ?_)
      · have h := h.1 q
        refine g_iinc (pc := 41) (v := (x3 + 1)) (lv0 := [(2, .int (x2)), (0, cr E x0), (1, .int (x1))]) hX d_Mo_nextSlot_41 3 rfl rfl (by rw [hN]; decide) (g_st1b (ks := [2, 0, 1]) rfl rfl rfl rfl) ?_
        refine g_goto (pc := 44) (tgt := 4) hX d_Mo_nextSlot_44 (by decide) ?_
        refine g_sub [2, 3, 1, 0] rfl ?_
        exact ih _ _ _ _ _ h
      · have h := h.2 q
        refine g_iload_n (pc := 20) hX d_Mo_nextSlot_20 rfl 2 rfl ?_
        refine g_if_lt (pc := 21) (tgt := 39) hX d_Mo_nextSlot_21 (by decide) (fun q => ?_) (fun q => ?_)
        · have h := h.1 q
          refine g_iload_n (pc := 39) hX d_Mo_nextSlot_39 rfl 3 rfl ?_
          refine g_istore_n (pc := 40) (lv0 := [(1, .int (x1)), (0, cr E x0), (3, .int (x3))]) hX d_Mo_nextSlot_40 rfl (by rw [hN]; decide) (g_st1b (ks := [1, 0, 3]) rfl rfl rfl rfl) ?_
          refine g_iinc (pc := 41) (v := (x3 + 1)) (lv0 := [(2, .int (x3)), (1, .int (x1)), (0, cr E x0)]) hX d_Mo_nextSlot_41 3 rfl rfl (by rw [hN]; decide) (g_st1b (ks := [0, 1, 2]) rfl rfl rfl rfl) ?_
          refine g_goto (pc := 44) (tgt := 4) hX d_Mo_nextSlot_44 (by decide) ?_
          refine g_sub [3, 2, 1, 0] rfl ?_
          exact ih _ _ _ _ _ h
        · have h := h.2 q
          refine g_aload_n (pc := 24) hX d_Mo_nextSlot_24 rfl 0 rfl ?_
          refine g_getR (pc := 25) hX fl_Mo_42 rfl f1 d_Mo_nextSlot_25 ?_
          refine g_iload_n (pc := 28) hX d_Mo_nextSlot_28 rfl 3 rfl ?_
          refine g_iaload (pc := 29) hX f2 f3 d_Mo_nextSlot_29 ?_
          refine g_aload_n (pc := 30) hX d_Mo_nextSlot_30 rfl 0 rfl ?_
          refine g_getR (pc := 31) hX fl_Mo_42 rfl f1 d_Mo_nextSlot_31 ?_
          refine g_iload_n (pc := 34) hX d_Mo_nextSlot_34 rfl 2 rfl ?_
          obtain ⟨f4, h⟩ := h
          refine g_iaload (pc := 35) hX f2 f4 d_Mo_nextSlot_35 ?_
          refine g_icmp_ge (pc := 36) (tgt := 41) hX d_Mo_nextSlot_36 (by decide) (fun q => ?_) (fun q => ?_)
          · have h := h.1 q
            refine g_iinc (pc := 41) (v := (x3 + 1)) (lv0 := [(2, .int (x2)), (0, cr E x0), (1, .int (x1))]) hX d_Mo_nextSlot_41 3 rfl rfl (by rw [hN]; decide) (g_st1b (ks := [2, 0, 1]) rfl rfl rfl rfl) ?_
            refine g_goto (pc := 44) (tgt := 4) hX d_Mo_nextSlot_44 (by decide) ?_
            refine g_sub [2, 3, 1, 0] rfl ?_
            exact ih _ _ _ _ _ h
          · have h := h.2 q
            refine g_iload_n (pc := 39) hX d_Mo_nextSlot_39 rfl 3 rfl ?_
            refine g_istore_n (pc := 40) (lv0 := [(1, .int (x1)), (0, cr E x0), (3, .int (x3))]) hX d_Mo_nextSlot_40 rfl (by rw [hN]; decide) (g_st1b (ks := [1, 0, 3]) rfl rfl rfl rfl) ?_
            refine g_iinc (pc := 41) (v := (x3 + 1)) (lv0 := [(2, .int (x3)), (1, .int (x1)), (0, cr E x0)]) hX d_Mo_nextSlot_41 3 rfl rfl (by rw [hN]; decide) (g_st1b (ks := [0, 1, 2]) rfl rfl rfl rfl) ?_
            refine g_goto (pc := 44) (tgt := 4) hX d_Mo_nextSlot_44 (by decide) ?_
            refine g_sub [3, 2, 1, 0] rfl ?_
            exact ih _ _ _ _ _ h
set_option maxRecDepth 100000 in
set_option maxHeartbeats 4000000 in
theorem c_Mo_nextSlot (o : Nat) (p1 : Int32) (A : Mem) (K : Int32 → Mem → Prop) (h : wp_Mo_nextSlot o p1 A K) : CtI y_Mo_nextSlot prog_14_method_59_code 4 0 0 (fun E => [cr E o, .int (p1)]) A K := by
  refine ctI_of "BasicMachineModel" (by decide) rfl (fun E => [(0, cr E o), (1, .int (p1))]) (fun E => by simp [lg_sl, cr_cat, ca_i, ca_l, ca_d]) (fun E => by simp [lv_args, cr_cat, ca_i, ca_l, ca_d]) (fun X E hX hR hN hQ => ?_)
  unfold wp_Mo_nextSlot at h
  refine g_iconst (pc := 0) (v := (-1)) hX d_Mo_nextSlot_0 (by decide) ?_
  refine g_istore_n (pc := 1) (lv0 := [(1, .int (p1)), (0, cr E o)]) hX d_Mo_nextSlot_1 rfl (by rw [hN]; decide) (g_st1b (ks := [1, 0]) rfl rfl rfl rfl) ?_
  refine g_iconst (pc := 2) (v := 0) hX d_Mo_nextSlot_2 (by decide) ?_
  refine g_istore_n (pc := 3) (lv0 := [(2, .int ((-1))), (1, .int (p1)), (0, cr E o)]) hX d_Mo_nextSlot_3 rfl (by rw [hN]; decide) (g_st1b (ks := [0, 1, 2]) rfl rfl rfl rfl) ?_
  refine g_sub [3, 2, 1, 0] rfl ?_
  obtain ⟨n9, h⟩ := h
  exact k_Mo_nextSlot_c4 hX hR hN hQ n9 _ _ _ _ _ h
def wp_Mo_goTo (o : Nat) (p1 : Int32) (A : Mem) (K : Int32 → Mem → Prop) : Prop := kd o = 9 ∧ wp_Mo_slotOf o p1 A (fun (r2 : Int32) (A1 : Mem) => ((0 ≤ r2 → K r2 A1) ∧ (¬ 0 ≤ r2 → K r2 (sI A1 o 27 3))))
set_option maxRecDepth 100000 in
set_option maxHeartbeats 4000000 in
theorem c_Mo_goTo (o : Nat) (p1 : Int32) (A : Mem) (K : Int32 → Mem → Prop) (h : wp_Mo_goTo o p1 A K) : CtI y_Mo_goTo prog_14_method_60_code 3 1 22 (fun E => [cr E o, .int (p1)]) A K := by
  refine ctI_of "BasicMachineModel" (by decide) rfl (fun E => [(0, cr E o), (1, .int (p1))]) (fun E => by simp [lg_sl, cr_cat, ca_i, ca_l, ca_d]) (fun E => by simp [lv_args, cr_cat, ca_i, ca_l, ca_d]) (fun X E hX hR hN hQ => ?_)
  unfold wp_Mo_goTo at h
  refine g_aload_n (pc := 0) hX d_Mo_goTo_0 rfl 0 rfl ?_
  refine g_iload_n (pc := 1) hX d_Mo_goTo_1 rfl 1 rfl ?_
  obtain ⟨f3, h⟩ := h
  refine g_callV_I (pc := 2) hX hR f3 cf9 rfl lk_Mo_329 mf_Mo_slotOf (c_Mo_slotOf _ _ _ _ h) rfl rfl rfl ⟨by decide, by decide⟩ (cat_sum _ (Nat.le_of_ble_eq_true rfl)) d_Mo_goTo_2 (fun r2 A1 h => ?_)
  refine g_istore_n (pc := 5) (lv0 := [(1, .int (p1)), (0, cr E o)]) hX d_Mo_goTo_5 rfl (by rw [hN]; decide) (g_st1b (ks := [1, 0]) rfl rfl rfl rfl) ?_
  refine g_iload_n (pc := 6) hX d_Mo_goTo_6 rfl 0 rfl ?_
  refine g_if_ge (pc := 7) (tgt := 15) hX d_Mo_goTo_7 (by decide) (fun q => ?_) (fun q => ?_)
  · have h := h.1 q
    refine g_iload_n (pc := 15) hX d_Mo_goTo_15 rfl 0 rfl ?_
    exact g_iret hX hQ h d_Mo_goTo_16
  · have h := h.2 q
    refine g_aload_n (pc := 10) hX d_Mo_goTo_10 rfl 2 rfl ?_
    refine g_iconst (pc := 11) (v := 3) hX d_Mo_goTo_11 (by decide) ?_
    refine g_putI (pc := 12) hX fl_Mo_94 rfl rfl rfl f3 d_Mo_goTo_12 ?_
    refine g_iload_n (pc := 15) hX d_Mo_goTo_15 rfl 0 rfl ?_
    exact g_iret hX hQ h d_Mo_goTo_16
def wp_Mo_collect_c31 (J11 : Nat → Int32 → Mem → Prop) (K : Mem → Prop) : Nat → Nat → Int32 → Int32 → Mem → Prop
  | 0, _, _, _, _ => False
  | n + 1, x0, x1, x2, A => kd x0 = 9 ∧ kd (gR A x0 12) = 51 ∧ vp_in (x1 * 8) (al (gR A x0 12)) ∧ (((gI A (gR A x0 12) (Int32.toNatClampNeg (x1 * 8))) ≤ x2 → kd (gR A x0 10) = 51 ∧ vp_in x1 (al (gR A x0 10)) ∧ wp_Mo_nextSlot x0 (gI A (gR A x0 10) (Int32.toNatClampNeg x1)) A (fun (r17 : Int32) (A16 : Mem) => J11 x0 r17 A16)) ∧ (¬ (gI A (gR A x0 12) (Int32.toNatClampNeg (x1 * 8))) ≤ x2 → kd (gR A x0 13) = 51 ∧ vp_in (x1 * 4) (al (gR A x0 13)) ∧ wp_Mo_plain x0 (((gI A (gR A x0 13) (Int32.toNatClampNeg (x1 * 4))) + (4 * x2)) + 2) A (fun (r21 : UInt64) (A20 : Mem) => kd (gR A20 x0 14) = 51 ∧ vp_in ((gI A (gR A x0 13) (Int32.toNatClampNeg (x1 * 4))) + (4 * x2)) (al (gR A20 x0 14)) ∧ ((¬ (gI A20 (gR A20 x0 14) (Int32.toNatClampNeg ((gI A (gR A x0 13) (Int32.toNatClampNeg (x1 * 4))) + (4 * x2)))) = 1 → kd (gR A20 x0 31) = 53 ∧ vp_in (gI A20 x0 20) (al (gR A20 x0 31)) ∧ ∀ A26 : Mem, A26 = (sI (sD A20 (gR A20 x0 31) (Int32.toNatClampNeg (gI A20 x0 20)) r21) x0 20 ((gI (sD A20 (gR A20 x0 31) (Int32.toNatClampNeg (gI A20 x0 20)) r21) x0 20) + 1)) → wp_Mo_collect_c31 J11 K n x0 x1 (x2 + 1) A26) ∧ ((gI A20 (gR A20 x0 14) (Int32.toNatClampNeg ((gI A (gR A x0 13) (Int32.toNatClampNeg (x1 * 4))) + (4 * x2)))) = 1 → kd (gR A20 x0 31) = 53 ∧ vp_in (gI A20 x0 20) (al (gR A20 x0 31)) ∧ ∀ A29 : Mem, A29 = (sI (sD A20 (gR A20 x0 31) (Int32.toNatClampNeg (gI A20 x0 20)) (FP.dneg r21)) x0 20 ((gI (sD A20 (gR A20 x0 31) (Int32.toNatClampNeg (gI A20 x0 20)) (FP.dneg r21)) x0 20) + 1)) → wp_Mo_collect_c31 J11 K n x0 x1 (x2 + 1) A29)))))
def wp_Mo_collect_c11 (K : Mem → Prop) : Nat → Nat → Int32 → Mem → Prop
  | 0, _, _, _ => False
  | n + 1, x0, x1, A => ((x1 < 0 → K A) ∧ (¬ x1 < 0 → kd x0 = 9 ∧ kd (gR A x0 11) = 51 ∧ vp_in x1 (al (gR A x0 11)) ∧ (((gI A (gR A x0 11) (Int32.toNatClampNeg x1)) = 10 → (∃ n9 : Nat, wp_Mo_collect_c31 (wp_Mo_collect_c11 K n) K n9 x0 x1 0 A)) ∧ (¬ (gI A (gR A x0 11) (Int32.toNatClampNeg x1)) = 10 → kd (gR A x0 10) = 51 ∧ vp_in x1 (al (gR A x0 10)) ∧ wp_Mo_nextSlot x0 (gI A (gR A x0 10) (Int32.toNatClampNeg x1)) A (fun (r10 : Int32) (A9 : Mem) => wp_Mo_collect_c11 K n x0 r10 A9)))))
def wp_Mo_collect (o : Nat) (A : Mem) (K : Mem → Prop) : Prop := kd o = 9 ∧ wp_Mo_nextSlot o 0 (sI A o 20 0) (fun (r3 : Int32) (A2 : Mem) => (∃ n9 : Nat, wp_Mo_collect_c11 K n9 o r3 A2))
set_option maxRecDepth 100000 in
set_option maxHeartbeats 4000000 in
theorem k_Mo_collect_c31 {X : CXT} {E : EVT} {K : Mem → Prop} {J11 : Nat → Int32 → Mem → Prop} (hX : Gd X E "BasicMachineModel" prog_14_method_61_code) (hR : Rm X 1 24) (hN : xnL X = 6) (hQ : QV X E K) (hJ11 : ∀ (x0 : Nat) (x1 : Int32) (A : Mem), J11 x0 x1 A → G X E A 11 [(0, cr E x0), (1, .int (x1))] []) : ∀ (n : Nat) (x0 : Nat) (x1 : Int32) (x2 : Int32) (A : Mem), wp_Mo_collect_c31 J11 K n x0 x1 x2 A → G X E A 31 [(0, cr E x0), (1, .int (x1)), (2, .int (x2))] [] := by
  intro n
  induction n with
  | zero => intro x0 x1 x2 A h; exact h.elim
  | succ n ih =>
    intro x0 x1 x2 A h
    rw [wp_Mo_collect_c31] at h
    refine g_iload_n (pc := 31) hX d_Mo_collect_31 rfl 2 rfl ?_
    refine g_aload_n (pc := 32) hX d_Mo_collect_32 rfl 0 rfl ?_
    obtain ⟨f11, h⟩ := h
    refine g_getR (pc := 33) hX fl_Mo_49 rfl f11 d_Mo_collect_33 ?_
    refine g_iload_n (pc := 36) hX d_Mo_collect_36 rfl 1 rfl ?_
    refine g_bipush (pc := 37) (v := 8) hX d_Mo_collect_37 (by decide) ?_
    refine g_imul (pc := 39) hX d_Mo_collect_39 ?_
    obtain ⟨f12, h⟩ := h
    obtain ⟨f13, h⟩ := h
    refine g_iaload (pc := 40) hX f12 f13 d_Mo_collect_40 ?_
    refine g_icmp_ge (pc := 41) (tgt := 109) hX d_Mo_collect_41 (by decide) (fun q => ?_) (fun q => ?_)
    · have h := h.1 q
      refine g_aload_n (pc := 109) hX d_Mo_collect_109 rfl 0 rfl ?_
      refine g_aload_n (pc := 110) hX d_Mo_collect_110 rfl 0 rfl ?_
      refine g_getR (pc := 111) hX fl_Mo_42 rfl f11 d_Mo_collect_111 ?_
      refine g_iload_n (pc := 114) hX d_Mo_collect_114 rfl 1 rfl ?_
      obtain ⟨f14, h⟩ := h
      obtain ⟨f15, h⟩ := h
      refine g_iaload (pc := 115) hX f14 f15 d_Mo_collect_115 ?_
      refine g_callV_I (pc := 116) hX hR f11 cf9 rfl lk_Mo_389 mf_Mo_nextSlot (c_Mo_nextSlot _ _ _ _ h) rfl rfl rfl ⟨by decide, by decide⟩ (cat_sum _ (Nat.le_of_ble_eq_true rfl)) d_Mo_collect_116 (fun r17 A16 h => ?_)
      refine g_istore_n (pc := 119) (lv0 := [(0, cr E x0), (2, .int (x2))]) hX d_Mo_collect_119 rfl (by rw [hN]; decide) (g_st1b (ks := [0, 2]) rfl (cr_cat _ _) rfl rfl) ?_
      refine g_goto (pc := 120) (tgt := 11) hX d_Mo_collect_120 (by decide) ?_
      refine g_sub [1, 0] rfl ?_
      exact hJ11 _ _ _ h
    · have h := h.2 q
      refine g_aload_n (pc := 44) hX d_Mo_collect_44 rfl 0 rfl ?_
      refine g_getR (pc := 45) hX fl_Mo_52 rfl f11 d_Mo_collect_45 ?_
      refine g_iload_n (pc := 48) hX d_Mo_collect_48 rfl 1 rfl ?_
      refine g_iconst (pc := 49) (v := 4) hX d_Mo_collect_49 (by decide) ?_
      refine g_imul (pc := 50) hX d_Mo_collect_50 ?_
      obtain ⟨f18, h⟩ := h
      obtain ⟨f19, h⟩ := h
      refine g_iaload (pc := 51) hX f18 f19 d_Mo_collect_51 ?_
      refine g_iconst (pc := 52) (v := 4) hX d_Mo_collect_52 (by decide) ?_
      refine g_iload_n (pc := 53) hX d_Mo_collect_53 rfl 2 rfl ?_
      refine g_imul (pc := 54) hX d_Mo_collect_54 ?_
      refine g_iadd (pc := 55) hX d_Mo_collect_55 ?_
      refine g_istore_n (pc := 56) (lv0 := [(2, .int (x2)), (0, cr E x0), (1, .int (x1))]) hX d_Mo_collect_56 rfl (by rw [hN]; decide) (g_st1b (ks := [2, 0, 1]) rfl rfl rfl rfl) ?_
      refine g_aload_n (pc := 57) hX d_Mo_collect_57 rfl 2 rfl ?_
      refine g_iload_n (pc := 58) hX d_Mo_collect_58 rfl 0 rfl ?_
      refine g_iconst (pc := 59) (v := 2) hX d_Mo_collect_59 (by decide) ?_
      refine g_iadd (pc := 60) hX d_Mo_collect_60 ?_
      refine g_callV_D (pc := 61) hX hR f11 cf9 rfl lk_Mo_364 mf_Mo_plain (c_Mo_plain _ _ _ _ h) rfl rfl rfl ⟨by decide, by decide⟩ (cat_sum _ (Nat.le_of_ble_eq_true rfl)) d_Mo_collect_61 (fun r21 A20 h => ?_)
      refine g_dstore (pc := 64) (lv0 := [(3, .int (((gI A (gR A x0 13) (Int32.toNatClampNeg (x1 * 4))) + (4 * x2)))), (2, .int (x2)), (0, cr E x0), (1, .int (x1))]) hX d_Mo_collect_64 (by rw [hN]; decide) (g_st2b (ks := [0, 1, 2, 3]) rfl rfl rfl rfl rfl) ?_
      refine g_aload_n (pc := 66) hX d_Mo_collect_66 rfl 3 rfl ?_
      refine g_getR (pc := 67) hX fl_Mo_107 rfl f11 d_Mo_collect_67 ?_
      refine g_aload_n (pc := 70) hX d_Mo_collect_70 rfl 3 rfl ?_
      refine g_getI (pc := 71) hX fl_Mo_73 rfl f11 d_Mo_collect_71 ?_
      refine g_aload_n (pc := 74) hX d_Mo_collect_74 rfl 3 rfl ?_
      refine g_getR (pc := 75) hX fl_Mo_55 rfl f11 d_Mo_collect_75 ?_
      refine g_iload_n (pc := 78) hX d_Mo_collect_78 rfl 1 rfl ?_
      obtain ⟨f22, h⟩ := h
      obtain ⟨f23, h⟩ := h
      refine g_iaload (pc := 79) hX f22 f23 d_Mo_collect_79 ?_
      refine g_iconst (pc := 80) (v := 1) hX d_Mo_collect_80 (by decide) ?_
      refine g_icmp_ne (pc := 81) (tgt := 90) hX d_Mo_collect_81 (by decide) (fun q => ?_) (fun q => ?_)
      · have h := h.1 q
        refine g_dload (pc := 90) hX d_Mo_collect_90 0 rfl ?_
        obtain ⟨f24, h⟩ := h
        obtain ⟨f25, h⟩ := h
        refine g_dastore (pc := 92) hX f24 f25 d_Mo_collect_92 ?_
        refine g_aload_n (pc := 93) hX d_Mo_collect_93 rfl 3 rfl ?_
        refine g_dup (pc := 94) hX d_Mo_collect_94 (cr_cat _ _) ?_
        refine g_getI (pc := 95) hX fl_Mo_73 rfl f11 d_Mo_collect_95 ?_
        refine g_iconst (pc := 98) (v := 1) hX d_Mo_collect_98 (by decide) ?_
        refine g_iadd (pc := 99) hX d_Mo_collect_99 ?_
        refine g_putI (pc := 100) hX fl_Mo_73 rfl rfl rfl f11 d_Mo_collect_100 ?_
        refine g_nm (fun A26 eA26 => ?_)
        have h := h A26 eA26
        refine g_iinc (pc := 103) (v := (x2 + 1)) (lv0 := [(1, .int (x1)), (4, .double (r21)), (3, .int (((gI A (gR A x0 13) (Int32.toNatClampNeg (x1 * 4))) + (4 * x2)))), (0, cr E x0)]) hX d_Mo_collect_103 2 rfl rfl (by rw [hN]; decide) (g_st1b (ks := [4, 0, 1, 3]) rfl rfl rfl rfl) ?_
        refine g_goto (pc := 106) (tgt := 31) hX d_Mo_collect_106 (by decide) ?_
        refine g_sub [4, 1, 0] rfl ?_
        exact ih _ _ _ _ h
      · have h := h.2 q
        refine g_dload (pc := 84) hX d_Mo_collect_84 0 rfl ?_
        refine g_dneg (pc := 86) hX d_Mo_collect_86 ?_
        refine g_goto (pc := 87) (tgt := 92) hX d_Mo_collect_87 (by decide) ?_
        obtain ⟨f27, h⟩ := h
        obtain ⟨f28, h⟩ := h
        refine g_dastore (pc := 92) hX f27 f28 d_Mo_collect_92 ?_
        refine g_aload_n (pc := 93) hX d_Mo_collect_93 rfl 3 rfl ?_
        refine g_dup (pc := 94) hX d_Mo_collect_94 (cr_cat _ _) ?_
        refine g_getI (pc := 95) hX fl_Mo_73 rfl f11 d_Mo_collect_95 ?_
        refine g_iconst (pc := 98) (v := 1) hX d_Mo_collect_98 (by decide) ?_
        refine g_iadd (pc := 99) hX d_Mo_collect_99 ?_
        refine g_putI (pc := 100) hX fl_Mo_73 rfl rfl rfl f11 d_Mo_collect_100 ?_
        refine g_nm (fun A29 eA29 => ?_)
        have h := h A29 eA29
        refine g_iinc (pc := 103) (v := (x2 + 1)) (lv0 := [(1, .int (x1)), (4, .double (r21)), (3, .int (((gI A (gR A x0 13) (Int32.toNatClampNeg (x1 * 4))) + (4 * x2)))), (0, cr E x0)]) hX d_Mo_collect_103 2 rfl rfl (by rw [hN]; decide) (g_st1b (ks := [4, 0, 1, 3]) rfl rfl rfl rfl) ?_
        refine g_goto (pc := 106) (tgt := 31) hX d_Mo_collect_106 (by decide) ?_
        refine g_sub [4, 1, 0] rfl ?_
        exact ih _ _ _ _ h
set_option maxRecDepth 100000 in
set_option maxHeartbeats 4000000 in
theorem k_Mo_collect_c11 {X : CXT} {E : EVT} {K : Mem → Prop} (hX : Gd X E "BasicMachineModel" prog_14_method_61_code) (hR : Rm X 1 24) (hN : xnL X = 6) (hQ : QV X E K) : ∀ (n : Nat) (x0 : Nat) (x1 : Int32) (A : Mem), wp_Mo_collect_c11 K n x0 x1 A → G X E A 11 [(0, cr E x0), (1, .int (x1))] [] := by
  intro n
  induction n with
  | zero => intro x0 x1 A h; exact h.elim
  | succ n ih =>
    intro x0 x1 A h
    rw [wp_Mo_collect_c11] at h
    refine g_iload_n (pc := 11) hX d_Mo_collect_11 rfl 1 rfl ?_
    refine g_if_lt (pc := 12) (tgt := 123) hX d_Mo_collect_12 (by decide) (fun q => ?_) (fun q => ?_)
    · have h := h.1 q
      exact g_vret hX hQ h d_Mo_collect_123
    · have h := h.2 q
      refine g_aload_n (pc := 15) hX d_Mo_collect_15 rfl 0 rfl ?_
      obtain ⟨f4, h⟩ := h
      refine g_getR (pc := 16) hX fl_Mo_46 rfl f4 d_Mo_collect_16 ?_
      refine g_iload_n (pc := 19) hX d_Mo_collect_19 rfl 1 rfl ?_
      obtain ⟨f5, h⟩ := h
      obtain ⟨f6, h⟩ := h
      refine g_iaload (pc := 20) hX f5 f6 d_Mo_collect_20 ?_
      refine g_bipush (pc := 21) (v := 10) hX d_Mo_collect_21 (by decide) ?_
      refine g_icmp_eq (pc := 23) (tgt := 29) hX d_Mo_collect_23 (by decide) (fun q => ?_) (fun q => ?_)
      · have h := h.1 q
        refine g_iconst (pc := 29) (v := 0) hX d_Mo_collect_29 (by decide) ?_
        refine g_istore_n (pc := 30) (lv0 := [(1, .int (x1)), (0, cr E x0)]) hX d_Mo_collect_30 rfl (by rw [hN]; decide) (g_st1b (ks := [1, 0]) rfl rfl rfl rfl) ?_
        refine g_sub [2, 1, 0] rfl ?_
        obtain ⟨n9, h⟩ := h
        exact k_Mo_collect_c31 hX hR hN hQ ih n9 _ _ _ _ h
      · have h := h.2 q
        refine g_goto (pc := 26) (tgt := 109) hX d_Mo_collect_26 (by decide) ?_
        refine g_aload_n (pc := 109) hX d_Mo_collect_109 rfl 0 rfl ?_
        refine g_aload_n (pc := 110) hX d_Mo_collect_110 rfl 0 rfl ?_
        refine g_getR (pc := 111) hX fl_Mo_42 rfl f4 d_Mo_collect_111 ?_
        refine g_iload_n (pc := 114) hX d_Mo_collect_114 rfl 1 rfl ?_
        obtain ⟨f7, h⟩ := h
        obtain ⟨f8, h⟩ := h
        refine g_iaload (pc := 115) hX f7 f8 d_Mo_collect_115 ?_
        refine g_callV_I (pc := 116) hX hR f4 cf9 rfl lk_Mo_389 mf_Mo_nextSlot (c_Mo_nextSlot _ _ _ _ h) rfl rfl rfl ⟨by decide, by decide⟩ (cat_sum _ (Nat.le_of_ble_eq_true rfl)) d_Mo_collect_116 (fun r10 A9 h => ?_)
        refine g_istore_n (pc := 119) (lv0 := [(0, cr E x0)]) hX d_Mo_collect_119 rfl (by rw [hN]; decide) (g_st1b (ks := [0]) rfl (cr_cat _ _) rfl rfl) ?_
        refine g_goto (pc := 120) (tgt := 11) hX d_Mo_collect_120 (by decide) ?_
        refine g_sub [1, 0] rfl ?_
        exact ih _ _ _ h
set_option maxRecDepth 100000 in
set_option maxHeartbeats 4000000 in
theorem c_Mo_collect (o : Nat) (A : Mem) (K : Mem → Prop) (h : wp_Mo_collect o A K) : CtV y_Mo_collect prog_14_method_61_code 6 1 24 (fun E => [cr E o]) A K := by
  refine ctV_of "BasicMachineModel" (by decide) rfl (fun E => [(0, cr E o)]) (fun E => by simp [lg_sl, cr_cat, ca_i, ca_l, ca_d]) (fun E => by simp [lv_args, cr_cat, ca_i, ca_l, ca_d]) (fun X E hX hR hN hQ => ?_)
  unfold wp_Mo_collect at h
  refine g_aload_n (pc := 0) hX d_Mo_collect_0 rfl 0 rfl ?_
  refine g_iconst (pc := 1) (v := 0) hX d_Mo_collect_1 (by decide) ?_
  obtain ⟨f1, h⟩ := h
  refine g_putI (pc := 2) hX fl_Mo_73 rfl rfl rfl f1 d_Mo_collect_2 ?_
  refine g_aload_n (pc := 5) hX d_Mo_collect_5 rfl 0 rfl ?_
  refine g_iconst (pc := 6) (v := 0) hX d_Mo_collect_6 (by decide) ?_
  refine g_callV_I (pc := 7) hX hR f1 cf9 rfl lk_Mo_389 mf_Mo_nextSlot (c_Mo_nextSlot _ _ _ _ h) rfl rfl rfl ⟨by decide, by decide⟩ (cat_sum _ (Nat.le_of_ble_eq_true rfl)) d_Mo_collect_7 (fun r3 A2 h => ?_)
  refine g_istore_n (pc := 10) (lv0 := [(0, cr E o)]) hX d_Mo_collect_10 rfl (by rw [hN]; decide) (g_st1b (ks := [0]) rfl (cr_cat _ _) rfl rfl) ?_
  refine g_sub [1, 0] rfl ?_
  obtain ⟨n9, h⟩ := h
  exact k_Mo_collect_c11 hX hR hN hQ n9 _ _ _ h
def wp_Mo_assign_c155 (K : Mem → Prop) (x0 : Nat) (x3 : Int32) (x4 : Int32) (x5 : UInt64) (A : Mem) : Prop := kd x0 = 9 ∧ (((gI A x0 27) = 0 → ((x3 ≤ 25 → kd (gR A x0 29) = 53 ∧ vp_in x3 (al (gR A x0 29)) ∧ K (sD A (gR A x0 29) (Int32.toNatClampNeg x3) x5)) ∧ (¬ x3 ≤ 25 → kd (gR A x0 35) = 53 ∧ vp_in x4 (al (gR A x0 35)) ∧ K (sD A (gR A x0 35) (Int32.toNatClampNeg x4) x5)))) ∧ (¬ (gI A x0 27) = 0 → K A))
def wp_Mo_assign_c81 (K : Mem → Prop) (x0 : Nat) (x1 : Int32) (x2 : Int32) (x3 : Int32) (x4 : Int32) (A : Mem) : Prop := kd x0 = 9 ∧ (((gI A x0 27) = 0 → ((¬ x2 = 0 → ((¬ (gI A x0 19) = (gI A x0 20) → kd (gR A x0 31) = 53 ∧ vp_in (gI A x0 19) (al (gR A x0 31)) ∧ wp_Mo_assign_c155 K x0 x3 x4 (gD A (gR A x0 31) (Int32.toNatClampNeg (gI A x0 19))) (sI A x0 19 ((gI A x0 19) + 1))) ∧ ((gI A x0 19) = (gI A x0 20) → wp_Mo_assign_c155 K x0 x3 x4 FP.dconst0 (sI A x0 27 3)))) ∧ (x2 = 0 → kd (gR A x0 13) = 51 ∧ vp_in ((x1 * 4) + 2) (al (gR A x0 13)) ∧ wp_Mo_work x0 (gI A (gR A x0 13) (Int32.toNatClampNeg ((x1 * 4) + 2))) A (fun (r18 : UInt64) (A17 : Mem) => wp_Mo_assign_c155 K x0 x3 x4 r18 A17)))) ∧ (¬ (gI A x0 27) = 0 → K A))
def wp_Mo_assign_c58 (K : Mem → Prop) (x0 : Nat) (x1 : Int32) (x2 : Int32) (x3 : Int32) (x4 : Int32) (x5 : UInt64) (s0 : UInt64) (A : Mem) : Prop := kd x0 = 9 ∧ ((¬ (gI A x0 27) = 0 → wp_Mo_assign_c81 K x0 x1 x2 x3 x4 A) ∧ ((gI A x0 27) = 0 → wp_Mo_placeOf x0 (x3 - 26) x5 s0 A (fun (r26 : Int32) (A25 : Mem) => wp_Mo_assign_c81 K x0 x1 x2 x3 r26 A25)))
def wp_Mo_assign (o : Nat) (p1 : Int32) (p2 : Int32) (A : Mem) (K : Mem → Prop) : Prop := kd o = 9 ∧ kd (gR A o 12) = 51 ∧ vp_in (p1 * 8) (al (gR A o 12)) ∧ (((gI A (gR A o 12) (Int32.toNatClampNeg (p1 * 8))) ≤ 25 → wp_Mo_assign_c81 K o p1 p2 (gI A (gR A o 12) (Int32.toNatClampNeg (p1 * 8))) (gI A (gR A o 12) (Int32.toNatClampNeg (p1 * 8))) A) ∧ (¬ (gI A (gR A o 12) (Int32.toNatClampNeg (p1 * 8))) ≤ 25 → kd (gR A o 13) = 51 ∧ vp_in (p1 * 4) (al (gR A o 13)) ∧ wp_Mo_work o (gI A (gR A o 13) (Int32.toNatClampNeg (p1 * 4))) A (fun (r7 : UInt64) (A6 : Mem) => ((¬ (gI A6 o 27) = 0 → wp_Mo_assign_c58 K o p1 p2 (gI A (gR A o 12) (Int32.toNatClampNeg (p1 * 8))) (gI A (gR A o 12) (Int32.toNatClampNeg (p1 * 8))) r7 FP.dconst0 A6) ∧ ((gI A6 o 27) = 0 → kd (gR A6 o 13) = 51 ∧ vp_in ((p1 * 4) + 1) (al (gR A6 o 13)) ∧ wp_Mo_work o (gI A6 (gR A6 o 13) (Int32.toNatClampNeg ((p1 * 4) + 1))) A6 (fun (r11 : UInt64) (A10 : Mem) => wp_Mo_assign_c58 K o p1 p2 (gI A (gR A o 12) (Int32.toNatClampNeg (p1 * 8))) (gI A (gR A o 12) (Int32.toNatClampNeg (p1 * 8))) r7 r11 A10))))))
set_option maxRecDepth 100000 in
set_option maxHeartbeats 4000000 in
theorem k_Mo_assign_c155 {X : CXT} {E : EVT} {K : Mem → Prop} (hX : Gd X E "BasicMachineModel" prog_14_method_62_code) (hR : Rm X 6 145) (hN : xnL X = 9) (hQ : QV X E K) (x0 : Nat) (x3 : Int32) (x4 : Int32) (x5 : UInt64) (A : Mem) (h : wp_Mo_assign_c155 K x0 x3 x4 x5 A) : G X E A 155 [(0, cr E x0), (3, .int (x3)), (4, .int (x4)), (5, .double (x5))] [] := by
  unfold wp_Mo_assign_c155 at h
  refine g_aload_n (pc := 155) hX d_Mo_assign_155 rfl 0 rfl ?_
  obtain ⟨f19, h⟩ := h
  refine g_getI (pc := 156) hX fl_Mo_94 rfl f19 d_Mo_assign_156 ?_
  refine g_if_eq (pc := 159) (tgt := 163) hX d_Mo_assign_159 (by decide) (fun q => ?_) (fun q => ?_)
  · have h := h.1 q
    refine g_iload_n (pc := 163) hX d_Mo_assign_163 rfl 1 rfl ?_
    refine g_bipush (pc := 164) (v := 25) hX d_Mo_assign_164 (by decide) ?_
    refine g_icmp_le (pc := 166) (tgt := 181) hX d_Mo_assign_166 (by decide) (fun q => ?_) (fun q => ?_)
    · have h := h.1 q
      refine g_aload_n (pc := 181) hX d_Mo_assign_181 rfl 0 rfl ?_
      refine g_getR (pc := 182) hX fl_Mo_101 rfl f19 d_Mo_assign_182 ?_
      refine g_iload_n (pc := 185) hX d_Mo_assign_185 rfl 1 rfl ?_
      refine g_dload (pc := 186) hX d_Mo_assign_186 3 rfl ?_
      obtain ⟨f20, h⟩ := h
      obtain ⟨f21, h⟩ := h
      refine g_dastore (pc := 188) hX f20 f21 d_Mo_assign_188 ?_
      exact g_vret hX hQ h d_Mo_assign_189
    · have h := h.2 q
      refine g_aload_n (pc := 169) hX d_Mo_assign_169 rfl 0 rfl ?_
      refine g_getR (pc := 170) hX fl_Mo_119 rfl f19 d_Mo_assign_170 ?_
      refine g_iload (pc := 173) hX d_Mo_assign_173 2 rfl ?_
      refine g_dload (pc := 175) hX d_Mo_assign_175 3 rfl ?_
      obtain ⟨f22, h⟩ := h
      obtain ⟨f23, h⟩ := h
      refine g_dastore (pc := 177) hX f22 f23 d_Mo_assign_177 ?_
      refine g_goto (pc := 178) (tgt := 189) hX d_Mo_assign_178 (by decide) ?_
      exact g_vret hX hQ h d_Mo_assign_189
  · have h := h.2 q
    exact g_vret hX hQ h d_Mo_assign_162
set_option maxRecDepth 100000 in
set_option maxHeartbeats 4000000 in
theorem k_Mo_assign_c81 {X : CXT} {E : EVT} {K : Mem → Prop} (hX : Gd X E "BasicMachineModel" prog_14_method_62_code) (hR : Rm X 6 145) (hN : xnL X = 9) (hQ : QV X E K) (x0 : Nat) (x1 : Int32) (x2 : Int32) (x3 : Int32) (x4 : Int32) (A : Mem) (h : wp_Mo_assign_c81 K x0 x1 x2 x3 x4 A) : G X E A 81 [(0, cr E x0), (1, .int (x1)), (2, .int (x2)), (3, .int (x3)), (4, .int (x4))] [] := by
  unfold wp_Mo_assign_c81 at h
  refine g_aload_n (pc := 81) hX d_Mo_assign_81 rfl 0 rfl ?_
  obtain ⟨f12, h⟩ := h
  refine g_getI (pc := 82) hX fl_Mo_94 rfl f12 d_Mo_assign_82 ?_
  refine g_if_eq (pc := 85) (tgt := 89) hX d_Mo_assign_85 (by decide) (fun q => ?_) (fun q => ?_)
  · have h := h.1 q
    refine g_dconst0 (pc := 89) hX d_Mo_assign_89 ?_
    refine g_dstore (pc := 90) (lv0 := [(4, .int (x4)), (0, cr E x0), (1, .int (x1)), (2, .int (x2)), (3, .int (x3))]) hX d_Mo_assign_90 (by rw [hN]; decide) (g_st2b (ks := [4, 0, 1, 2, 3]) rfl rfl rfl rfl rfl) ?_
    refine g_iload_n (pc := 92) hX d_Mo_assign_92 rfl 4 rfl ?_
    refine g_if_ne (pc := 93) (tgt := 115) hX d_Mo_assign_93 (by decide) (fun q => ?_) (fun q => ?_)
    · have h := h.1 q
      refine g_aload_n (pc := 115) hX d_Mo_assign_115 rfl 2 rfl ?_
      refine g_getI (pc := 116) hX fl_Mo_70 rfl f12 d_Mo_assign_116 ?_
      refine g_aload_n (pc := 119) hX d_Mo_assign_119 rfl 2 rfl ?_
      refine g_getI (pc := 120) hX fl_Mo_73 rfl f12 d_Mo_assign_120 ?_
      refine g_icmp_ne (pc := 123) (tgt := 134) hX d_Mo_assign_123 (by decide) (fun q => ?_) (fun q => ?_)
      · have h := h.1 q
        refine g_aload_n (pc := 134) hX d_Mo_assign_134 rfl 2 rfl ?_
        refine g_getR (pc := 135) hX fl_Mo_107 rfl f12 d_Mo_assign_135 ?_
        refine g_aload_n (pc := 138) hX d_Mo_assign_138 rfl 2 rfl ?_
        refine g_getI (pc := 139) hX fl_Mo_70 rfl f12 d_Mo_assign_139 ?_
        obtain ⟨f13, h⟩ := h
        obtain ⟨f14, h⟩ := h
        refine g_daload (pc := 142) hX f13 f14 d_Mo_assign_142 ?_
        refine g_dstore (pc := 143) (lv0 := [(4, .int (x4)), (0, cr E x0), (1, .int (x1)), (2, .int (x2)), (3, .int (x3))]) hX d_Mo_assign_143 (by rw [hN]; decide) (g_st2b (ks := [1, 2, 3, 4, 5]) rfl rfl rfl rfl rfl) ?_
        refine g_aload_n (pc := 145) hX d_Mo_assign_145 rfl 2 rfl ?_
        refine g_dup (pc := 146) hX d_Mo_assign_146 (cr_cat _ _) ?_
        refine g_getI (pc := 147) hX fl_Mo_70 rfl f12 d_Mo_assign_147 ?_
        refine g_iconst (pc := 150) (v := 1) hX d_Mo_assign_150 (by decide) ?_
        refine g_iadd (pc := 151) hX d_Mo_assign_151 ?_
        refine g_putI (pc := 152) hX fl_Mo_70 rfl rfl rfl f12 d_Mo_assign_152 ?_
        refine g_sub [2, 5, 1, 0] rfl ?_
        exact k_Mo_assign_c155 hX hR hN hQ _ _ _ _ _ h
      · have h := h.2 q
        refine g_aload_n (pc := 126) hX d_Mo_assign_126 rfl 2 rfl ?_
        refine g_iconst (pc := 127) (v := 3) hX d_Mo_assign_127 (by decide) ?_
        refine g_putI (pc := 128) hX fl_Mo_94 rfl rfl rfl f12 d_Mo_assign_128 ?_
        refine g_goto (pc := 131) (tgt := 155) hX d_Mo_assign_131 (by decide) ?_
        refine g_sub [2, 5, 1, 0] rfl ?_
        exact k_Mo_assign_c155 hX hR hN hQ _ _ _ _ _ h
    · have h := h.2 q
      refine g_aload_n (pc := 96) hX d_Mo_assign_96 rfl 2 rfl ?_
      refine g_aload_n (pc := 97) hX d_Mo_assign_97 rfl 2 rfl ?_
      refine g_getR (pc := 98) hX fl_Mo_52 rfl f12 d_Mo_assign_98 ?_
      refine g_iload_n (pc := 101) hX d_Mo_assign_101 rfl 3 rfl ?_
      refine g_iconst (pc := 102) (v := 4) hX d_Mo_assign_102 (by decide) ?_
      refine g_imul (pc := 103) hX d_Mo_assign_103 ?_
      refine g_iconst (pc := 104) (v := 2) hX d_Mo_assign_104 (by decide) ?_
      refine g_iadd (pc := 105) hX d_Mo_assign_105 ?_
      obtain ⟨f15, h⟩ := h
      obtain ⟨f16, h⟩ := h
      refine g_iaload (pc := 106) hX f15 f16 d_Mo_assign_106 ?_
      refine g_callV_D (pc := 107) hX hR f12 cf9 rfl lk_Mo_392 mf_Mo_work (c_Mo_work _ _ _ _ h) rfl rfl rfl ⟨by decide, by decide⟩ (cat_sum _ (Nat.le_of_ble_eq_true rfl)) d_Mo_assign_107 (fun r18 A17 h => ?_)
      refine g_dstore (pc := 110) (lv0 := [(4, .int (x4)), (0, cr E x0), (1, .int (x1)), (2, .int (x2)), (3, .int (x3))]) hX d_Mo_assign_110 (by rw [hN]; decide) (g_st2b (ks := [1, 2, 3, 4, 5]) rfl rfl rfl rfl rfl) ?_
      refine g_goto (pc := 112) (tgt := 155) hX d_Mo_assign_112 (by decide) ?_
      refine g_sub [2, 5, 1, 0] rfl ?_
      exact k_Mo_assign_c155 hX hR hN hQ _ _ _ _ _ h
  · have h := h.2 q
    exact g_vret hX hQ h d_Mo_assign_88
set_option maxRecDepth 100000 in
set_option maxHeartbeats 4000000 in
theorem k_Mo_assign_c58 {X : CXT} {E : EVT} {K : Mem → Prop} (hX : Gd X E "BasicMachineModel" prog_14_method_62_code) (hR : Rm X 6 145) (hN : xnL X = 9) (hQ : QV X E K) (x0 : Nat) (x1 : Int32) (x2 : Int32) (x3 : Int32) (x4 : Int32) (x5 : UInt64) (s0 : UInt64) (A : Mem) (h : wp_Mo_assign_c58 K x0 x1 x2 x3 x4 x5 s0 A) : G X E A 58 [(0, cr E x0), (1, .int (x1)), (2, .int (x2)), (3, .int (x3)), (4, .int (x4)), (5, .double (x5))] [.double (s0)] := by
  unfold wp_Mo_assign_c58 at h
  refine g_dstore (pc := 58) (lv0 := [(0, cr E x0), (1, .int (x1)), (2, .int (x2)), (3, .int (x3)), (4, .int (x4)), (5, .double (x5))]) hX d_Mo_assign_58 (by rw [hN]; decide) (g_st2 (ks := [0, 1, 2, 3, 4, 5]) rfl rfl) ?_
  refine g_aload_n (pc := 60) hX d_Mo_assign_60 rfl 1 rfl ?_
  obtain ⟨f24, h⟩ := h
  refine g_getI (pc := 61) hX fl_Mo_94 rfl f24 d_Mo_assign_61 ?_
  refine g_if_ne (pc := 64) (tgt := 81) hX d_Mo_assign_64 (by decide) (fun q => ?_) (fun q => ?_)
  · have h := h.1 q
    refine g_sub [1, 2, 3, 4, 5] rfl ?_
    exact k_Mo_assign_c81 hX hR hN hQ _ _ _ _ _ _ h
  · have h := h.2 q
    refine g_aload_n (pc := 67) hX d_Mo_assign_67 rfl 1 rfl ?_
    refine g_iload_n (pc := 68) hX d_Mo_assign_68 rfl 4 rfl ?_
    refine g_bipush (pc := 69) (v := 26) hX d_Mo_assign_69 (by decide) ?_
    refine g_isub (pc := 71) hX d_Mo_assign_71 ?_
    refine g_dload (pc := 72) hX d_Mo_assign_72 6 rfl ?_
    refine g_dload (pc := 74) hX d_Mo_assign_74 0 rfl ?_
    refine g_callV_I (pc := 76) hX hR f24 cf9 rfl lk_Mo_368 mf_Mo_placeOf (c_Mo_placeOf _ _ _ _ _ _ h) rfl rfl rfl ⟨by decide, by decide⟩ (cat_sum _ (Nat.le_of_ble_eq_true rfl)) d_Mo_assign_76 (fun r26 A25 h => ?_)
    refine g_istore (pc := 79) (lv0 := [(3, .int (x3)), (7, .double (s0)), (0, cr E x0), (1, .int (x1)), (2, .int (x2)), (5, .double (x5))]) hX d_Mo_assign_79 (by rw [hN]; decide) (g_st1b (ks := [4, 0, 1, 2, 3, 6]) rfl rfl rfl rfl) ?_
    refine g_sub [3, 4, 5, 1, 0] rfl ?_
    exact k_Mo_assign_c81 hX hR hN hQ _ _ _ _ _ _ h
set_option maxRecDepth 100000 in
set_option maxHeartbeats 4000000 in
theorem c_Mo_assign (o : Nat) (p1 : Int32) (p2 : Int32) (A : Mem) (K : Mem → Prop) (h : wp_Mo_assign o p1 p2 A K) : CtV y_Mo_assign prog_14_method_62_code 9 6 145 (fun E => [cr E o, .int (p1), .int (p2)]) A K := by
  refine ctV_of "BasicMachineModel" (by decide) rfl (fun E => [(0, cr E o), (1, .int (p1)), (2, .int (p2))]) (fun E => by simp [lg_sl, cr_cat, ca_i, ca_l, ca_d]) (fun E => by simp [lv_args, cr_cat, ca_i, ca_l, ca_d]) (fun X E hX hR hN hQ => ?_)
  unfold wp_Mo_assign at h
  refine g_aload_n (pc := 0) hX d_Mo_assign_0 rfl 0 rfl ?_
  obtain ⟨f1, h⟩ := h
  refine g_getR (pc := 1) hX fl_Mo_49 rfl f1 d_Mo_assign_1 ?_
  refine g_iload_n (pc := 4) hX d_Mo_assign_4 rfl 1 rfl ?_
  refine g_bipush (pc := 5) (v := 8) hX d_Mo_assign_5 (by decide) ?_
  refine g_imul (pc := 7) hX d_Mo_assign_7 ?_
  obtain ⟨f2, h⟩ := h
  obtain ⟨f3, h⟩ := h
  refine g_iaload (pc := 8) hX f2 f3 d_Mo_assign_8 ?_
  refine g_istore_n (pc := 9) (lv0 := [(2, .int (p2)), (0, cr E o), (1, .int (p1))]) hX d_Mo_assign_9 rfl (by rw [hN]; decide) (g_st1b (ks := [2, 0, 1]) rfl rfl rfl rfl) ?_
  refine g_iload_n (pc := 10) hX d_Mo_assign_10 rfl 0 rfl ?_
  refine g_istore (pc := 11) (lv0 := [(3, .int ((gI A (gR A o 12) (Int32.toNatClampNeg (p1 * 8))))), (2, .int (p2)), (0, cr E o), (1, .int (p1))]) hX d_Mo_assign_11 (by rw [hN]; decide) (g_st1b (ks := [0, 1, 2, 3]) rfl rfl rfl rfl) ?_
  refine g_iload_n (pc := 13) hX d_Mo_assign_13 rfl 1 rfl ?_
  refine g_bipush (pc := 14) (v := 25) hX d_Mo_assign_14 (by decide) ?_
  refine g_icmp_le (pc := 16) (tgt := 81) hX d_Mo_assign_16 (by decide) (fun q => ?_) (fun q => ?_)
  · have h := h.1 q
    refine g_sub [3, 4, 2, 1, 0] rfl ?_
    exact k_Mo_assign_c81 hX hR hN hQ _ _ _ _ _ _ h
  · have h := h.2 q
    refine g_aload_n (pc := 19) hX d_Mo_assign_19 rfl 3 rfl ?_
    refine g_aload_n (pc := 20) hX d_Mo_assign_20 rfl 3 rfl ?_
    refine g_getR (pc := 21) hX fl_Mo_52 rfl f1 d_Mo_assign_21 ?_
    refine g_iload_n (pc := 24) hX d_Mo_assign_24 rfl 4 rfl ?_
    refine g_iconst (pc := 25) (v := 4) hX d_Mo_assign_25 (by decide) ?_
    refine g_imul (pc := 26) hX d_Mo_assign_26 ?_
    obtain ⟨f4, h⟩ := h
    obtain ⟨f5, h⟩ := h
    refine g_iaload (pc := 27) hX f4 f5 d_Mo_assign_27 ?_
    refine g_callV_D (pc := 28) hX hR f1 cf9 rfl lk_Mo_392 mf_Mo_work (c_Mo_work _ _ _ _ h) rfl rfl rfl ⟨by decide, by decide⟩ (cat_sum _ (Nat.le_of_ble_eq_true rfl)) d_Mo_assign_28 (fun r7 A6 h => ?_)
    refine g_dstore (pc := 31) (lv0 := [(4, .int ((gI A (gR A o 12) (Int32.toNatClampNeg (p1 * 8))))), (3, .int ((gI A (gR A o 12) (Int32.toNatClampNeg (p1 * 8))))), (2, .int (p2)), (0, cr E o), (1, .int (p1))]) hX d_Mo_assign_31 (by rw [hN]; decide) (g_st2b (ks := [0, 1, 2, 3, 4]) rfl rfl rfl rfl rfl) ?_
    refine g_aload_n (pc := 33) hX d_Mo_assign_33 rfl 4 rfl ?_
    refine g_getI (pc := 34) hX fl_Mo_94 rfl f1 d_Mo_assign_34 ?_
    refine g_if_ne (pc := 37) (tgt := 57) hX d_Mo_assign_37 (by decide) (fun q => ?_) (fun q => ?_)
    · have h := h.1 q
      refine g_dconst0 (pc := 57) hX d_Mo_assign_57 ?_
      refine g_sub [4, 5, 3, 2, 1, 0] rfl ?_
      exact k_Mo_assign_c58 hX hR hN hQ _ _ _ _ _ _ _ _ h
    · have h := h.2 q
      refine g_aload_n (pc := 40) hX d_Mo_assign_40 rfl 4 rfl ?_
      refine g_aload_n (pc := 41) hX d_Mo_assign_41 rfl 4 rfl ?_
      refine g_getR (pc := 42) hX fl_Mo_52 rfl f1 d_Mo_assign_42 ?_
      refine g_iload_n (pc := 45) hX d_Mo_assign_45 rfl 5 rfl ?_
      refine g_iconst (pc := 46) (v := 4) hX d_Mo_assign_46 (by decide) ?_
      refine g_imul (pc := 47) hX d_Mo_assign_47 ?_
      refine g_iconst (pc := 48) (v := 1) hX d_Mo_assign_48 (by decide) ?_
      refine g_iadd (pc := 49) hX d_Mo_assign_49 ?_
      obtain ⟨f8, h⟩ := h
      obtain ⟨f9, h⟩ := h
      refine g_iaload (pc := 50) hX f8 f9 d_Mo_assign_50 ?_
      refine g_callV_D (pc := 51) hX hR f1 cf9 rfl lk_Mo_392 mf_Mo_work (c_Mo_work _ _ _ _ h) rfl rfl rfl ⟨by decide, by decide⟩ (cat_sum _ (Nat.le_of_ble_eq_true rfl)) d_Mo_assign_51 (fun r11 A10 h => ?_)
      refine g_goto (pc := 54) (tgt := 58) hX d_Mo_assign_54 (by decide) ?_
      refine g_sub [4, 5, 3, 2, 1, 0] rfl ?_
      exact k_Mo_assign_c58 hX hR hN hQ _ _ _ _ _ _ _ _ h
def wp_Mo_holds (o : Nat) (p1 : Int32) (p2 : UInt64) (p4 : UInt64) (A : Mem) (K : Bool → Mem → Prop) : Prop := ((p1 = 0 → ((¬ (Op.cmpValue (FP.dcmp p2 p4) .l) = 0 → K false A) ∧ ((Op.cmpValue (FP.dcmp p2 p4) .l) = 0 → K true A))) ∧ (p1 = 1 → ((0 ≤ (Op.cmpValue (FP.dcmp p2 p4) .g) → K false A) ∧ (¬ 0 ≤ (Op.cmpValue (FP.dcmp p2 p4) .g) → K true A))) ∧ (p1 = 2 → (((Op.cmpValue (FP.dcmp p2 p4) .l) ≤ 0 → K false A) ∧ (¬ (Op.cmpValue (FP.dcmp p2 p4) .l) ≤ 0 → K true A))) ∧ (p1 = 3 → ((0 < (Op.cmpValue (FP.dcmp p2 p4) .g) → K false A) ∧ (¬ 0 < (Op.cmpValue (FP.dcmp p2 p4) .g) → K true A))) ∧ (p1 = 4 → (((Op.cmpValue (FP.dcmp p2 p4) .l) < 0 → K false A) ∧ (¬ (Op.cmpValue (FP.dcmp p2 p4) .l) < 0 → K true A))) ∧ (¬ p1 = 0 → ¬ p1 = 1 → ¬ p1 = 2 → ¬ p1 = 3 → ¬ p1 = 4 → (((Op.cmpValue (FP.dcmp p2 p4) .l) = 0 → K false A) ∧ (¬ (Op.cmpValue (FP.dcmp p2 p4) .l) = 0 → K true A))))
set_option maxRecDepth 100000 in
set_option maxHeartbeats 4000000 in
theorem c_Mo_holds (o : Nat) (p1 : Int32) (p2 : UInt64) (p4 : UInt64) (A : Mem) (K : Bool → Mem → Prop) (h : wp_Mo_holds o p1 p2 p4 A K) : CtZ y_Mo_holds prog_14_method_63_code 6 0 0 (fun E => [cr E o, .int (p1), .double (p2), .double (p4)]) A K := by
  refine ctZ_of "BasicMachineModel" (by decide) rfl (fun E => [(0, cr E o), (1, .int (p1)), (2, .double (p2)), (4, .double (p4))]) (fun E => by simp [lg_sl, cr_cat, ca_i, ca_l, ca_d]) (fun E => by simp [lv_args, cr_cat, ca_i, ca_l, ca_d]) (fun X E hX hR hN hQ => ?_)
  unfold wp_Mo_holds at h
  refine g_iload_n (pc := 0) hX d_Mo_holds_0 rfl 1 rfl ?_
  by_cases q0 : p1 = 0
  · have h := h.1 q0
    refine g_tabin (pc := 1) (tgt := 36) (off := 35) hX (v := 0) q0 d_Mo_holds_1 (by decide) (by decide) (by decide +kernel) (by decide) ?_
    refine g_dload_n (pc := 36) hX d_Mo_holds_36 rfl 2 rfl ?_
    refine g_dload (pc := 37) hX d_Mo_holds_37 3 rfl ?_
    refine g_dcmp (pc := 39) hX d_Mo_holds_39 ?_
    refine g_if_ne (pc := 40) (tgt := 47) hX d_Mo_holds_40 (by decide) (fun q => ?_) (fun q => ?_)
    · have h := h.1 q
      refine g_iconst (pc := 47) (v := 0) hX d_Mo_holds_47 (by decide) ?_
      exact g_zret hX hQ false rfl h d_Mo_holds_48
    · have h := h.2 q
      refine g_iconst (pc := 43) (v := 1) hX d_Mo_holds_43 (by decide) ?_
      refine g_goto (pc := 44) (tgt := 48) hX d_Mo_holds_44 (by decide) ?_
      exact g_zret hX hQ true rfl h d_Mo_holds_48
  by_cases q1 : p1 = 1
  · have h := h.2.1 q1
    refine g_tabin (pc := 1) (tgt := 49) (off := 48) hX (v := 1) q1 d_Mo_holds_1 (by decide) (by decide) (by decide +kernel) (by decide) ?_
    refine g_dload_n (pc := 49) hX d_Mo_holds_49 rfl 2 rfl ?_
    refine g_dload (pc := 50) hX d_Mo_holds_50 3 rfl ?_
    refine g_dcmp (pc := 52) hX d_Mo_holds_52 ?_
    refine g_if_ge (pc := 53) (tgt := 60) hX d_Mo_holds_53 (by decide) (fun q => ?_) (fun q => ?_)
    · have h := h.1 q
      refine g_iconst (pc := 60) (v := 0) hX d_Mo_holds_60 (by decide) ?_
      exact g_zret hX hQ false rfl h d_Mo_holds_61
    · have h := h.2 q
      refine g_iconst (pc := 56) (v := 1) hX d_Mo_holds_56 (by decide) ?_
      refine g_goto (pc := 57) (tgt := 61) hX d_Mo_holds_57 (by decide) ?_
      exact g_zret hX hQ true rfl h d_Mo_holds_61
  by_cases q2 : p1 = 2
  · have h := h.2.2.1 q2
    refine g_tabin (pc := 1) (tgt := 62) (off := 61) hX (v := 2) q2 d_Mo_holds_1 (by decide) (by decide) (by decide +kernel) (by decide) ?_
    refine g_dload_n (pc := 62) hX d_Mo_holds_62 rfl 2 rfl ?_
    refine g_dload (pc := 63) hX d_Mo_holds_63 3 rfl ?_
    refine g_dcmp (pc := 65) hX d_Mo_holds_65 ?_
    refine g_if_le (pc := 66) (tgt := 73) hX d_Mo_holds_66 (by decide) (fun q => ?_) (fun q => ?_)
    · have h := h.1 q
      refine g_iconst (pc := 73) (v := 0) hX d_Mo_holds_73 (by decide) ?_
      exact g_zret hX hQ false rfl h d_Mo_holds_74
    · have h := h.2 q
      refine g_iconst (pc := 69) (v := 1) hX d_Mo_holds_69 (by decide) ?_
      refine g_goto (pc := 70) (tgt := 74) hX d_Mo_holds_70 (by decide) ?_
      exact g_zret hX hQ true rfl h d_Mo_holds_74
  by_cases q3 : p1 = 3
  · have h := h.2.2.2.1 q3
    refine g_tabin (pc := 1) (tgt := 75) (off := 74) hX (v := 3) q3 d_Mo_holds_1 (by decide) (by decide) (by decide +kernel) (by decide) ?_
    refine g_dload_n (pc := 75) hX d_Mo_holds_75 rfl 2 rfl ?_
    refine g_dload (pc := 76) hX d_Mo_holds_76 3 rfl ?_
    refine g_dcmp (pc := 78) hX d_Mo_holds_78 ?_
    refine g_if_gt (pc := 79) (tgt := 86) hX d_Mo_holds_79 (by decide) (fun q => ?_) (fun q => ?_)
    · have h := h.1 q
      refine g_iconst (pc := 86) (v := 0) hX d_Mo_holds_86 (by decide) ?_
      exact g_zret hX hQ false rfl h d_Mo_holds_87
    · have h := h.2 q
      refine g_iconst (pc := 82) (v := 1) hX d_Mo_holds_82 (by decide) ?_
      refine g_goto (pc := 83) (tgt := 87) hX d_Mo_holds_83 (by decide) ?_
      exact g_zret hX hQ true rfl h d_Mo_holds_87
  by_cases q4 : p1 = 4
  · have h := h.2.2.2.2.1 q4
    refine g_tabin (pc := 1) (tgt := 88) (off := 87) hX (v := 4) q4 d_Mo_holds_1 (by decide) (by decide) (by decide +kernel) (by decide) ?_
    refine g_dload_n (pc := 88) hX d_Mo_holds_88 rfl 2 rfl ?_
    refine g_dload (pc := 89) hX d_Mo_holds_89 3 rfl ?_
    refine g_dcmp (pc := 91) hX d_Mo_holds_91 ?_
    refine g_if_lt (pc := 92) (tgt := 99) hX d_Mo_holds_92 (by decide) (fun q => ?_) (fun q => ?_)
    · have h := h.1 q
      refine g_iconst (pc := 99) (v := 0) hX d_Mo_holds_99 (by decide) ?_
      exact g_zret hX hQ false rfl h d_Mo_holds_100
    · have h := h.2 q
      refine g_iconst (pc := 95) (v := 1) hX d_Mo_holds_95 (by decide) ?_
      refine g_goto (pc := 96) (tgt := 100) hX d_Mo_holds_96 (by decide) ?_
      exact g_zret hX hQ true rfl h d_Mo_holds_100
  have h := h.2.2.2.2.2 q0 q1 q2 q3 q4
  refine g_tabout (pc := 1) (tgt := 101) hX (vs := [(0 : Int32), (1 : Int32), (2 : Int32), (3 : Int32), (4 : Int32)]) (List.forall_mem_cons.mpr ⟨q0, List.forall_mem_cons.mpr ⟨q1, List.forall_mem_cons.mpr ⟨q2, List.forall_mem_cons.mpr ⟨q3, List.forall_mem_cons.mpr ⟨q4, fun _ h9 => absurd h9 List.not_mem_nil⟩⟩⟩⟩⟩) d_Mo_holds_1 (by decide +kernel) (by decide) ?_
  refine g_dload_n (pc := 101) hX d_Mo_holds_101 rfl 2 rfl ?_
  refine g_dload (pc := 102) hX d_Mo_holds_102 3 rfl ?_
  refine g_dcmp (pc := 104) hX d_Mo_holds_104 ?_
  refine g_if_eq (pc := 105) (tgt := 112) hX d_Mo_holds_105 (by decide) (fun q => ?_) (fun q => ?_)
  · have h := h.1 q
    refine g_iconst (pc := 112) (v := 0) hX d_Mo_holds_112 (by decide) ?_
    exact g_zret hX hQ false rfl h d_Mo_holds_113
  · have h := h.2 q
    refine g_iconst (pc := 108) (v := 1) hX d_Mo_holds_108 (by decide) ?_
    refine g_goto (pc := 109) (tgt := 113) hX d_Mo_holds_109 (by decide) ?_
    exact g_zret hX hQ true rfl h d_Mo_holds_113
def wp_Mo_over (o : Nat) (p1 : UInt64) (p3 : UInt64) (p5 : UInt64) (A : Mem) (K : Bool → Mem → Prop) : Prop := ((0 ≤ (Op.cmpValue (FP.dcmp p5 FP.dconst0) .g) → (((Op.cmpValue (FP.dcmp p1 p3) .l) ≤ 0 → K false A) ∧ (¬ (Op.cmpValue (FP.dcmp p1 p3) .l) ≤ 0 → K true A))) ∧ (¬ 0 ≤ (Op.cmpValue (FP.dcmp p5 FP.dconst0) .g) → ((0 ≤ (Op.cmpValue (FP.dcmp p1 p3) .g) → K false A) ∧ (¬ 0 ≤ (Op.cmpValue (FP.dcmp p1 p3) .g) → K true A))))
set_option maxRecDepth 100000 in
set_option maxHeartbeats 4000000 in
theorem c_Mo_over (o : Nat) (p1 : UInt64) (p3 : UInt64) (p5 : UInt64) (A : Mem) (K : Bool → Mem → Prop) (h : wp_Mo_over o p1 p3 p5 A K) : CtZ y_Mo_over prog_14_method_64_code 7 0 0 (fun E => [cr E o, .double (p1), .double (p3), .double (p5)]) A K := by
  refine ctZ_of "BasicMachineModel" (by decide) rfl (fun E => [(0, cr E o), (1, .double (p1)), (3, .double (p3)), (5, .double (p5))]) (fun E => by simp [lg_sl, cr_cat, ca_i, ca_l, ca_d]) (fun E => by simp [lv_args, cr_cat, ca_i, ca_l, ca_d]) (fun X E hX hR hN hQ => ?_)
  unfold wp_Mo_over at h
  refine g_dload (pc := 0) hX d_Mo_over_0 3 rfl ?_
  refine g_dconst0 (pc := 2) hX d_Mo_over_2 ?_
  refine g_dcmp (pc := 3) hX d_Mo_over_3 ?_
  refine g_if_ge (pc := 4) (tgt := 21) hX d_Mo_over_4 (by decide) (fun q => ?_) (fun q => ?_)
  · have h := h.1 q
    refine g_dload_n (pc := 21) hX d_Mo_over_21 rfl 1 rfl ?_
    refine g_dload_n (pc := 22) hX d_Mo_over_22 rfl 2 rfl ?_
    refine g_dcmp (pc := 23) hX d_Mo_over_23 ?_
    refine g_if_le (pc := 24) (tgt := 31) hX d_Mo_over_24 (by decide) (fun q => ?_) (fun q => ?_)
    · have h := h.1 q
      refine g_iconst (pc := 31) (v := 0) hX d_Mo_over_31 (by decide) ?_
      exact g_zret hX hQ false rfl h d_Mo_over_32
    · have h := h.2 q
      refine g_iconst (pc := 27) (v := 1) hX d_Mo_over_27 (by decide) ?_
      refine g_goto (pc := 28) (tgt := 32) hX d_Mo_over_28 (by decide) ?_
      exact g_zret hX hQ true rfl h d_Mo_over_32
  · have h := h.2 q
    refine g_dload_n (pc := 7) hX d_Mo_over_7 rfl 1 rfl ?_
    refine g_dload_n (pc := 8) hX d_Mo_over_8 rfl 2 rfl ?_
    refine g_dcmp (pc := 9) hX d_Mo_over_9 ?_
    refine g_if_ge (pc := 10) (tgt := 17) hX d_Mo_over_10 (by decide) (fun q => ?_) (fun q => ?_)
    · have h := h.1 q
      refine g_iconst (pc := 17) (v := 0) hX d_Mo_over_17 (by decide) ?_
      refine g_goto (pc := 18) (tgt := 32) hX d_Mo_over_18 (by decide) ?_
      exact g_zret hX hQ false rfl h d_Mo_over_32
    · have h := h.2 q
      refine g_iconst (pc := 13) (v := 1) hX d_Mo_over_13 (by decide) ?_
      refine g_goto (pc := 14) (tgt := 32) hX d_Mo_over_14 (by decide) ?_
      exact g_zret hX hQ true rfl h d_Mo_over_32
def wp_Mo_loopFor_c2 (K : Int32 → Mem → Prop) : Nat → Nat → Int32 → Int32 → Mem → Prop
  | 0, _, _, _, _ => False
  | n + 1, x0, x1, x2, A => kd x0 = 9 ∧ (((gI A x0 23) ≤ x2 → K (-1) A) ∧ (¬ (gI A x0 23) ≤ x2 → kd (gR A x0 41) = 51 ∧ vp_in x2 (al (gR A x0 41)) ∧ ((¬ (gI A (gR A x0 41) (Int32.toNatClampNeg x2)) = x1 → wp_Mo_loopFor_c2 K n x0 x1 (x2 + 1) A) ∧ ((gI A (gR A x0 41) (Int32.toNatClampNeg x2)) = x1 → K x2 A))))
def wp_Mo_loopFor (o : Nat) (p1 : Int32) (A : Mem) (K : Int32 → Mem → Prop) : Prop := (∃ n9 : Nat, wp_Mo_loopFor_c2 K n9 o p1 0 A)
set_option maxRecDepth 100000 in
set_option maxHeartbeats 4000000 in
theorem k_Mo_loopFor_c2 {X : CXT} {E : EVT} {K : Int32 → Mem → Prop} (hX : Gd X E "BasicMachineModel" prog_14_method_65_code) (hR : Rm X 0 0) (hN : xnL X = 3) (hQ : QI X E K) : ∀ (n : Nat) (x0 : Nat) (x1 : Int32) (x2 : Int32) (A : Mem), wp_Mo_loopFor_c2 K n x0 x1 x2 A → G X E A 2 [(0, cr E x0), (1, .int (x1)), (2, .int (x2))] [] := by
  intro n
  induction n with
  | zero => intro x0 x1 x2 A h; exact h.elim
  | succ n ih =>
    intro x0 x1 x2 A h
    rw [wp_Mo_loopFor_c2] at h
    refine g_iload_n (pc := 2) hX d_Mo_loopFor_2 rfl 2 rfl ?_
    refine g_aload_n (pc := 3) hX d_Mo_loopFor_3 rfl 0 rfl ?_
    obtain ⟨f1, h⟩ := h
    refine g_getI (pc := 4) hX fl_Mo_82 rfl f1 d_Mo_loopFor_4 ?_
    refine g_icmp_ge (pc := 7) (tgt := 28) hX d_Mo_loopFor_7 (by decide) (fun q => ?_) (fun q => ?_)
    · have h := h.1 q
      refine g_iconst (pc := 28) (v := (-1)) hX d_Mo_loopFor_28 (by decide) ?_
      exact g_iret hX hQ h d_Mo_loopFor_29
    · have h := h.2 q
      refine g_aload_n (pc := 10) hX d_Mo_loopFor_10 rfl 0 rfl ?_
      refine g_getR (pc := 11) hX fl_Mo_137 rfl f1 d_Mo_loopFor_11 ?_
      refine g_iload_n (pc := 14) hX d_Mo_loopFor_14 rfl 2 rfl ?_
      obtain ⟨f2, h⟩ := h
      obtain ⟨f3, h⟩ := h
      refine g_iaload (pc := 15) hX f2 f3 d_Mo_loopFor_15 ?_
      refine g_iload_n (pc := 16) hX d_Mo_loopFor_16 rfl 1 rfl ?_
      refine g_icmp_ne (pc := 17) (tgt := 22) hX d_Mo_loopFor_17 (by decide) (fun q => ?_) (fun q => ?_)
      · have h := h.1 q
        refine g_iinc (pc := 22) (v := (x2 + 1)) (lv0 := [(1, .int (x1)), (0, cr E x0)]) hX d_Mo_loopFor_22 2 rfl rfl (by rw [hN]; decide) (g_st1b (ks := [1, 0]) rfl rfl rfl rfl) ?_
        refine g_goto (pc := 25) (tgt := 2) hX d_Mo_loopFor_25 (by decide) ?_
        refine g_sub [2, 1, 0] rfl ?_
        exact ih _ _ _ _ h
      · have h := h.2 q
        refine g_iload_n (pc := 20) hX d_Mo_loopFor_20 rfl 2 rfl ?_
        exact g_iret hX hQ h d_Mo_loopFor_21
set_option maxRecDepth 100000 in
set_option maxHeartbeats 4000000 in
theorem c_Mo_loopFor (o : Nat) (p1 : Int32) (A : Mem) (K : Int32 → Mem → Prop) (h : wp_Mo_loopFor o p1 A K) : CtI y_Mo_loopFor prog_14_method_65_code 3 0 0 (fun E => [cr E o, .int (p1)]) A K := by
  refine ctI_of "BasicMachineModel" (by decide) rfl (fun E => [(0, cr E o), (1, .int (p1))]) (fun E => by simp [lg_sl, cr_cat, ca_i, ca_l, ca_d]) (fun E => by simp [lv_args, cr_cat, ca_i, ca_l, ca_d]) (fun X E hX hR hN hQ => ?_)
  unfold wp_Mo_loopFor at h
  refine g_iconst (pc := 0) (v := 0) hX d_Mo_loopFor_0 (by decide) ?_
  refine g_istore_n (pc := 1) (lv0 := [(1, .int (p1)), (0, cr E o)]) hX d_Mo_loopFor_1 rfl (by rw [hN]; decide) (g_st1b (ks := [1, 0]) rfl rfl rfl rfl) ?_
  refine g_sub [2, 1, 0] rfl ?_
  obtain ⟨n9, h⟩ := h
  exact k_Mo_loopFor_c2 hX hR hN hQ n9 _ _ _ _ h
def wp_Mo_doFor_c142 (K : Int32 → Mem → Prop) : Nat → Nat → Int32 → Int32 → Int32 → Mem → Prop
  | 0, _, _, _, _, _ => False
  | n + 1, x0, x2, x3, x10, A => ((x10 < 0 → kd x0 = 9 ∧ K x2 (sI A x0 27 2)) ∧ (¬ x10 < 0 → kd x0 = 9 ∧ kd (gR A x0 11) = 51 ∧ vp_in x10 (al (gR A x0 11)) ∧ ((¬ (gI A (gR A x0 11) (Int32.toNatClampNeg x10)) = 8 → kd (gR A x0 10) = 51 ∧ vp_in x10 (al (gR A x0 10)) ∧ wp_Mo_nextSlot x0 (gI A (gR A x0 10) (Int32.toNatClampNeg x10)) A (fun (r46 : Int32) (A45 : Mem) => wp_Mo_doFor_c142 K n x0 x2 x3 r46 A45)) ∧ ((gI A (gR A x0 11) (Int32.toNatClampNeg x10)) = 8 → kd (gR A x0 12) = 51 ∧ vp_in (x10 * 8) (al (gR A x0 12)) ∧ ((¬ (gI A (gR A x0 12) (Int32.toNatClampNeg (x10 * 8))) = x3 → kd (gR A x0 10) = 51 ∧ vp_in x10 (al (gR A x0 10)) ∧ wp_Mo_nextSlot x0 (gI A (gR A x0 10) (Int32.toNatClampNeg x10)) A (fun (r52 : Int32) (A51 : Mem) => wp_Mo_doFor_c142 K n x0 x2 x3 r52 A51)) ∧ ((gI A (gR A x0 12) (Int32.toNatClampNeg (x10 * 8))) = x3 → kd (gR A x0 10) = 51 ∧ vp_in x10 (al (gR A x0 10)) ∧ wp_Mo_nextSlot x0 (gI A (gR A x0 10) (Int32.toNatClampNeg x10)) A (fun (r56 : Int32) (A55 : Mem) => K r56 A55)))))))
def wp_Mo_doFor_c118 (K : Int32 → Mem → Prop) (x0 : Nat) (x1 : Int32) (x2 : Int32) (x3 : Int32) (x4 : UInt64) (x6 : UInt64) (x8 : UInt64) (A : Mem) : Prop := kd x0 = 9 ∧ kd (gR A x0 29) = 53 ∧ vp_in x3 (al (gR A x0 29)) ∧ wp_Mo_over x0 x4 x6 x8 (sD A (gR A x0 29) (Int32.toNatClampNeg x3) x4) (fun (r28 : Bool) (A27 : Mem) => ((r28 = false → ((¬ (gI A27 x0 23) = 6 → kd (gR A27 x0 41) = 51 ∧ vp_in (gI A27 x0 23) (al (gR A27 x0 41)) ∧ kd (gR (sI A27 (gR A27 x0 41) (Int32.toNatClampNeg (gI A27 x0 23)) x3) x0 42) = 51 ∧ vp_in (gI (sI A27 (gR A27 x0 41) (Int32.toNatClampNeg (gI A27 x0 23)) x3) x0 23) (al (gR (sI A27 (gR A27 x0 41) (Int32.toNatClampNeg (gI A27 x0 23)) x3) x0 42)) ∧ ∀ A33 : Mem, A33 = (sI (sI A27 (gR A27 x0 41) (Int32.toNatClampNeg (gI A27 x0 23)) x3) (gR (sI A27 (gR A27 x0 41) (Int32.toNatClampNeg (gI A27 x0 23)) x3) x0 42) (Int32.toNatClampNeg (gI (sI A27 (gR A27 x0 41) (Int32.toNatClampNeg (gI A27 x0 23)) x3) x0 23)) x1) → kd (gR A33 x0 32) = 53 ∧ vp_in (gI A33 x0 23) (al (gR A33 x0 32)) ∧ kd (gR (sD A33 (gR A33 x0 32) (Int32.toNatClampNeg (gI A33 x0 23)) x6) x0 33) = 53 ∧ vp_in (gI (sD A33 (gR A33 x0 32) (Int32.toNatClampNeg (gI A33 x0 23)) x6) x0 23) (al (gR (sD A33 (gR A33 x0 32) (Int32.toNatClampNeg (gI A33 x0 23)) x6) x0 33)) ∧ ∀ A38 : Mem, A38 = (sD (sD A33 (gR A33 x0 32) (Int32.toNatClampNeg (gI A33 x0 23)) x6) (gR (sD A33 (gR A33 x0 32) (Int32.toNatClampNeg (gI A33 x0 23)) x6) x0 33) (Int32.toNatClampNeg (gI (sD A33 (gR A33 x0 32) (Int32.toNatClampNeg (gI A33 x0 23)) x6) x0 23)) x8) → K x2 (sI A38 x0 23 ((gI A38 x0 23) + 1))) ∧ ((gI A27 x0 23) = 6 → K x2 (sI A27 x0 27 2)))) ∧ (r28 = true → (∃ n9 : Nat, wp_Mo_doFor_c142 K n9 x0 x2 x3 x2 A27))))
def wp_Mo_doFor_c92 (K : Int32 → Mem → Prop) (x0 : Nat) (x1 : Int32) (x2 : Int32) (x3 : Int32) (x4 : UInt64) (x6 : UInt64) (x8 : UInt64) (A : Mem) : Prop := kd x0 = 9 ∧ (((gI A x0 27) = 0 → wp_Mo_loopFor x0 x3 A (fun (r21 : Int32) (A20 : Mem) => ((r21 < 0 → wp_Mo_doFor_c118 K x0 x1 x2 x3 x4 x6 x8 A20) ∧ (¬ r21 < 0 → wp_Mo_loopFor x0 x3 A20 (fun (r23 : Int32) (A22 : Mem) => wp_Mo_doFor_c118 K x0 x1 x2 x3 x4 x6 x8 (sI A22 x0 23 r23)))))) ∧ (¬ (gI A x0 27) = 0 → K x2 A))
def wp_Mo_doFor_c49 (K : Int32 → Mem → Prop) (x0 : Nat) (x1 : Int32) (x2 : Int32) (x3 : Int32) (x4 : UInt64) (s0 : UInt64) (A : Mem) : Prop := kd x0 = 9 ∧ ((¬ (gI A x0 27) = 0 → wp_Mo_doFor_c92 K x0 x1 x2 x3 x4 s0 FP.dconst1 A) ∧ ((gI A x0 27) = 0 → kd (gR A x0 12) = 51 ∧ vp_in ((x1 * 8) + 1) (al (gR A x0 12)) ∧ ((¬ (gI A (gR A x0 12) (Int32.toNatClampNeg ((x1 * 8) + 1))) = 1 → wp_Mo_doFor_c92 K x0 x1 x2 x3 x4 s0 FP.dconst1 A) ∧ ((gI A (gR A x0 12) (Int32.toNatClampNeg ((x1 * 8) + 1))) = 1 → kd (gR A x0 13) = 51 ∧ vp_in ((x1 * 4) + 2) (al (gR A x0 13)) ∧ wp_Mo_work x0 (gI A (gR A x0 13) (Int32.toNatClampNeg ((x1 * 4) + 2))) A (fun (r18 : UInt64) (A17 : Mem) => wp_Mo_doFor_c92 K x0 x1 x2 x3 x4 s0 r18 A17)))))
def wp_Mo_doFor (o : Nat) (p1 : Int32) (p2 : Int32) (A : Mem) (K : Int32 → Mem → Prop) : Prop := kd o = 9 ∧ kd (gR A o 12) = 51 ∧ vp_in (p1 * 8) (al (gR A o 12)) ∧ kd (gR A o 13) = 51 ∧ vp_in (p1 * 4) (al (gR A o 13)) ∧ wp_Mo_work o (gI A (gR A o 13) (Int32.toNatClampNeg (p1 * 4))) A (fun (r7 : UInt64) (A6 : Mem) => ((¬ (gI A6 o 27) = 0 → wp_Mo_doFor_c49 K o p1 p2 (gI A (gR A o 12) (Int32.toNatClampNeg (p1 * 8))) r7 FP.dconst0 A6) ∧ ((gI A6 o 27) = 0 → kd (gR A6 o 13) = 51 ∧ vp_in ((p1 * 4) + 1) (al (gR A6 o 13)) ∧ wp_Mo_work o (gI A6 (gR A6 o 13) (Int32.toNatClampNeg ((p1 * 4) + 1))) A6 (fun (r11 : UInt64) (A10 : Mem) => wp_Mo_doFor_c49 K o p1 p2 (gI A (gR A o 12) (Int32.toNatClampNeg (p1 * 8))) r7 r11 A10))))
set_option maxRecDepth 100000 in
set_option maxHeartbeats 4000000 in
theorem k_Mo_doFor_c142 {X : CXT} {E : EVT} {K : Int32 → Mem → Prop} (hX : Gd X E "BasicMachineModel" prog_14_method_66_code) (hR : Rm X 6 145) (hN : xnL X = 11) (hQ : QI X E K) : ∀ (n : Nat) (x0 : Nat) (x2 : Int32) (x3 : Int32) (x10 : Int32) (A : Mem), wp_Mo_doFor_c142 K n x0 x2 x3 x10 A → G X E A 142 [(0, cr E x0), (2, .int (x2)), (3, .int (x3)), (10, .int (x10))] [] := by
  intro n
  induction n with
  | zero => intro x0 x2 x3 x10 A h; exact h.elim
  | succ n ih =>
    intro x0 x2 x3 x10 A h
    rw [wp_Mo_doFor_c142] at h
    refine g_iload (pc := 142) hX d_Mo_doFor_142 3 rfl ?_
    refine g_if_lt (pc := 144) (tgt := 201) hX d_Mo_doFor_144 (by decide) (fun q => ?_) (fun q => ?_)
    · have h := h.1 q
      refine g_aload_n (pc := 201) hX d_Mo_doFor_201 rfl 0 rfl ?_
      refine g_iconst (pc := 202) (v := 2) hX d_Mo_doFor_202 (by decide) ?_
      obtain ⟨f39, h⟩ := h
      refine g_putI (pc := 203) hX fl_Mo_94 rfl rfl rfl f39 d_Mo_doFor_203 ?_
      refine g_iload_n (pc := 206) hX d_Mo_doFor_206 rfl 1 rfl ?_
      exact g_iret hX hQ h d_Mo_doFor_207
    · have h := h.2 q
      refine g_aload_n (pc := 147) hX d_Mo_doFor_147 rfl 0 rfl ?_
      obtain ⟨f40, h⟩ := h
      refine g_getR (pc := 148) hX fl_Mo_46 rfl f40 d_Mo_doFor_148 ?_
      refine g_iload (pc := 151) hX d_Mo_doFor_151 3 rfl ?_
      obtain ⟨f41, h⟩ := h
      obtain ⟨f42, h⟩ := h
      refine g_iaload (pc := 153) hX f41 f42 d_Mo_doFor_153 ?_
      refine g_bipush (pc := 154) (v := 8) hX d_Mo_doFor_154 (by decide) ?_
      refine g_icmp_ne (pc := 156) (tgt := 185) hX d_Mo_doFor_156 (by decide) (fun q => ?_) (fun q => ?_)
      · have h := h.1 q
        refine g_aload_n (pc := 185) hX d_Mo_doFor_185 rfl 0 rfl ?_
        refine g_aload_n (pc := 186) hX d_Mo_doFor_186 rfl 0 rfl ?_
        refine g_getR (pc := 187) hX fl_Mo_42 rfl f40 d_Mo_doFor_187 ?_
        refine g_iload (pc := 190) hX d_Mo_doFor_190 3 rfl ?_
        obtain ⟨f43, h⟩ := h
        obtain ⟨f44, h⟩ := h
        refine g_iaload (pc := 192) hX f43 f44 d_Mo_doFor_192 ?_
        refine g_callV_I (pc := 193) hX hR f40 cf9 rfl lk_Mo_389 mf_Mo_nextSlot (c_Mo_nextSlot _ _ _ _ h) rfl rfl rfl ⟨by decide, by decide⟩ (cat_sum _ (Nat.le_of_ble_eq_true rfl)) d_Mo_doFor_193 (fun r46 A45 h => ?_)
        refine g_istore (pc := 196) (lv0 := [(0, cr E x0), (2, .int (x2)), (3, .int (x3))]) hX d_Mo_doFor_196 (by rw [hN]; decide) (g_st1 (ks := [0, 1, 2]) rfl rfl) ?_
        refine g_goto (pc := 198) (tgt := 142) hX d_Mo_doFor_198 (by decide) ?_
        refine g_sub [1, 2, 3, 0] rfl ?_
        exact ih _ _ _ _ _ h
      · have h := h.2 q
        refine g_aload_n (pc := 159) hX d_Mo_doFor_159 rfl 0 rfl ?_
        refine g_getR (pc := 160) hX fl_Mo_49 rfl f40 d_Mo_doFor_160 ?_
        refine g_iload (pc := 163) hX d_Mo_doFor_163 3 rfl ?_
        refine g_bipush (pc := 165) (v := 8) hX d_Mo_doFor_165 (by decide) ?_
        refine g_imul (pc := 167) hX d_Mo_doFor_167 ?_
        obtain ⟨f47, h⟩ := h
        obtain ⟨f48, h⟩ := h
        refine g_iaload (pc := 168) hX f47 f48 d_Mo_doFor_168 ?_
        refine g_iload_n (pc := 169) hX d_Mo_doFor_169 rfl 2 rfl ?_
        refine g_icmp_ne (pc := 170) (tgt := 185) hX d_Mo_doFor_170 (by decide) (fun q => ?_) (fun q => ?_)
        · have h := h.1 q
          refine g_aload_n (pc := 185) hX d_Mo_doFor_185 rfl 0 rfl ?_
          refine g_aload_n (pc := 186) hX d_Mo_doFor_186 rfl 0 rfl ?_
          refine g_getR (pc := 187) hX fl_Mo_42 rfl f40 d_Mo_doFor_187 ?_
          refine g_iload (pc := 190) hX d_Mo_doFor_190 3 rfl ?_
          obtain ⟨f49, h⟩ := h
          obtain ⟨f50, h⟩ := h
          refine g_iaload (pc := 192) hX f49 f50 d_Mo_doFor_192 ?_
          refine g_callV_I (pc := 193) hX hR f40 cf9 rfl lk_Mo_389 mf_Mo_nextSlot (c_Mo_nextSlot _ _ _ _ h) rfl rfl rfl ⟨by decide, by decide⟩ (cat_sum _ (Nat.le_of_ble_eq_true rfl)) d_Mo_doFor_193 (fun r52 A51 h => ?_)
          refine g_istore (pc := 196) (lv0 := [(0, cr E x0), (2, .int (x2)), (3, .int (x3))]) hX d_Mo_doFor_196 (by rw [hN]; decide) (g_st1 (ks := [0, 1, 2]) rfl rfl) ?_
          refine g_goto (pc := 198) (tgt := 142) hX d_Mo_doFor_198 (by decide) ?_
          refine g_sub [1, 2, 3, 0] rfl ?_
          exact ih _ _ _ _ _ h
        · have h := h.2 q
          refine g_aload_n (pc := 173) hX d_Mo_doFor_173 rfl 0 rfl ?_
          refine g_aload_n (pc := 174) hX d_Mo_doFor_174 rfl 0 rfl ?_
          refine g_getR (pc := 175) hX fl_Mo_42 rfl f40 d_Mo_doFor_175 ?_
          refine g_iload (pc := 178) hX d_Mo_doFor_178 3 rfl ?_
          obtain ⟨f53, h⟩ := h
          obtain ⟨f54, h⟩ := h
          refine g_iaload (pc := 180) hX f53 f54 d_Mo_doFor_180 ?_
          refine g_callV_I (pc := 181) hX hR f40 cf9 rfl lk_Mo_389 mf_Mo_nextSlot (c_Mo_nextSlot _ _ _ _ h) rfl rfl rfl ⟨by decide, by decide⟩ (cat_sum _ (Nat.le_of_ble_eq_true rfl)) d_Mo_doFor_181 (fun r56 A55 h => ?_)
          exact g_iret hX hQ h d_Mo_doFor_184
set_option maxRecDepth 100000 in
set_option maxHeartbeats 4000000 in
theorem k_Mo_doFor_c118 {X : CXT} {E : EVT} {K : Int32 → Mem → Prop} (hX : Gd X E "BasicMachineModel" prog_14_method_66_code) (hR : Rm X 6 145) (hN : xnL X = 11) (hQ : QI X E K) (x0 : Nat) (x1 : Int32) (x2 : Int32) (x3 : Int32) (x4 : UInt64) (x6 : UInt64) (x8 : UInt64) (A : Mem) (h : wp_Mo_doFor_c118 K x0 x1 x2 x3 x4 x6 x8 A) : G X E A 118 [(0, cr E x0), (1, .int (x1)), (2, .int (x2)), (3, .int (x3)), (4, .double (x4)), (6, .double (x6)), (8, .double (x8))] [] := by
  unfold wp_Mo_doFor_c118 at h
  refine g_aload_n (pc := 118) hX d_Mo_doFor_118 rfl 0 rfl ?_
  obtain ⟨f24, h⟩ := h
  refine g_getR (pc := 119) hX fl_Mo_101 rfl f24 d_Mo_doFor_119 ?_
  refine g_iload_n (pc := 122) hX d_Mo_doFor_122 rfl 3 rfl ?_
  refine g_dload (pc := 123) hX d_Mo_doFor_123 4 rfl ?_
  obtain ⟨f25, h⟩ := h
  obtain ⟨f26, h⟩ := h
  refine g_dastore (pc := 125) hX f25 f26 d_Mo_doFor_125 ?_
  refine g_aload_n (pc := 126) hX d_Mo_doFor_126 rfl 0 rfl ?_
  refine g_dload (pc := 127) hX d_Mo_doFor_127 4 rfl ?_
  refine g_dload (pc := 129) hX d_Mo_doFor_129 5 rfl ?_
  refine g_dload (pc := 131) hX d_Mo_doFor_131 6 rfl ?_
  refine g_callV_Z (pc := 133) hX hR f24 cf9 rfl lk_Mo_398 mf_Mo_over (c_Mo_over _ _ _ _ _ _ h) rfl rfl rfl ⟨by decide, by decide⟩ (cat_sum _ (Nat.le_of_ble_eq_true rfl)) d_Mo_doFor_133 (fun r28 A27 h => ?_)
  refine g_ifB_eq (pc := 136) (tgt := 208) hX d_Mo_doFor_136 (by decide) (fun q => ?_) (fun q => ?_)
  · have h := h.1 q
    refine g_aload_n (pc := 208) hX d_Mo_doFor_208 rfl 0 rfl ?_
    refine g_getI (pc := 209) hX fl_Mo_82 rfl f24 d_Mo_doFor_209 ?_
    refine g_bipush (pc := 212) (v := 6) hX d_Mo_doFor_212 (by decide) ?_
    refine g_icmp_ne (pc := 214) (tgt := 224) hX d_Mo_doFor_214 (by decide) (fun q => ?_) (fun q => ?_)
    · have h := h.1 q
      refine g_aload_n (pc := 224) hX d_Mo_doFor_224 rfl 0 rfl ?_
      refine g_getR (pc := 225) hX fl_Mo_137 rfl f24 d_Mo_doFor_225 ?_
      refine g_aload_n (pc := 228) hX d_Mo_doFor_228 rfl 0 rfl ?_
      refine g_getI (pc := 229) hX fl_Mo_82 rfl f24 d_Mo_doFor_229 ?_
      refine g_iload_n (pc := 232) hX d_Mo_doFor_232 rfl 3 rfl ?_
      obtain ⟨f29, h⟩ := h
      obtain ⟨f30, h⟩ := h
      refine g_iastore (pc := 233) hX f29 f30 d_Mo_doFor_233 ?_
      refine g_aload_n (pc := 234) hX d_Mo_doFor_234 rfl 0 rfl ?_
      refine g_getR (pc := 235) hX fl_Mo_140 rfl f24 d_Mo_doFor_235 ?_
      refine g_aload_n (pc := 238) hX d_Mo_doFor_238 rfl 0 rfl ?_
      refine g_getI (pc := 239) hX fl_Mo_82 rfl f24 d_Mo_doFor_239 ?_
      refine g_iload_n (pc := 242) hX d_Mo_doFor_242 rfl 1 rfl ?_
      obtain ⟨f31, h⟩ := h
      obtain ⟨f32, h⟩ := h
      refine g_iastore (pc := 243) hX f31 f32 d_Mo_doFor_243 ?_
      refine g_nm (fun A33 eA33 => ?_)
      have h := h A33 eA33
      refine g_aload_n (pc := 244) hX d_Mo_doFor_244 rfl 0 rfl ?_
      refine g_getR (pc := 245) hX fl_Mo_110 rfl f24 d_Mo_doFor_245 ?_
      refine g_aload_n (pc := 248) hX d_Mo_doFor_248 rfl 0 rfl ?_
      refine g_getI (pc := 249) hX fl_Mo_82 rfl f24 d_Mo_doFor_249 ?_
      refine g_dload (pc := 252) hX d_Mo_doFor_252 5 rfl ?_
      obtain ⟨f34, h⟩ := h
      obtain ⟨f35, h⟩ := h
      refine g_dastore (pc := 254) hX f34 f35 d_Mo_doFor_254 ?_
      refine g_aload_n (pc := 255) hX d_Mo_doFor_255 rfl 0 rfl ?_
      refine g_getR (pc := 256) hX fl_Mo_113 rfl f24 d_Mo_doFor_256 ?_
      refine g_aload_n (pc := 259) hX d_Mo_doFor_259 rfl 0 rfl ?_
      refine g_getI (pc := 260) hX fl_Mo_82 rfl f24 d_Mo_doFor_260 ?_
      refine g_dload (pc := 263) hX d_Mo_doFor_263 6 rfl ?_
      obtain ⟨f36, h⟩ := h
      obtain ⟨f37, h⟩ := h
      refine g_dastore (pc := 265) hX f36 f37 d_Mo_doFor_265 ?_
      refine g_nm (fun A38 eA38 => ?_)
      have h := h A38 eA38
      refine g_aload_n (pc := 266) hX d_Mo_doFor_266 rfl 0 rfl ?_
      refine g_dup (pc := 267) hX d_Mo_doFor_267 (cr_cat _ _) ?_
      refine g_getI (pc := 268) hX fl_Mo_82 rfl f24 d_Mo_doFor_268 ?_
      refine g_iconst (pc := 271) (v := 1) hX d_Mo_doFor_271 (by decide) ?_
      refine g_iadd (pc := 272) hX d_Mo_doFor_272 ?_
      refine g_putI (pc := 273) hX fl_Mo_82 rfl rfl rfl f24 d_Mo_doFor_273 ?_
      refine g_iload_n (pc := 276) hX d_Mo_doFor_276 rfl 2 rfl ?_
      exact g_iret hX hQ h d_Mo_doFor_277
    · have h := h.2 q
      refine g_aload_n (pc := 217) hX d_Mo_doFor_217 rfl 0 rfl ?_
      refine g_iconst (pc := 218) (v := 2) hX d_Mo_doFor_218 (by decide) ?_
      refine g_putI (pc := 219) hX fl_Mo_94 rfl rfl rfl f24 d_Mo_doFor_219 ?_
      refine g_iload_n (pc := 222) hX d_Mo_doFor_222 rfl 2 rfl ?_
      exact g_iret hX hQ h d_Mo_doFor_223
  · have h := h.2 q
    refine g_iload_n (pc := 139) hX d_Mo_doFor_139 rfl 2 rfl ?_
    refine g_istore (pc := 140) (lv0 := [(0, cr E x0), (1, .int (x1)), (2, .int (x2)), (3, .int (x3)), (4, .double (x4)), (6, .double (x6)), (8, .double (x8))]) hX d_Mo_doFor_140 (by rw [hN]; decide) (g_st1 (ks := [0, 1, 2, 3, 4, 5, 6]) rfl rfl) ?_
    refine g_sub [1, 3, 4, 0] rfl ?_
    obtain ⟨n9, h⟩ := h
    exact k_Mo_doFor_c142 hX hR hN hQ n9 _ _ _ _ _ h
set_option maxRecDepth 100000 in
set_option maxHeartbeats 4000000 in
theorem k_Mo_doFor_c92 {X : CXT} {E : EVT} {K : Int32 → Mem → Prop} (hX : Gd X E "BasicMachineModel" prog_14_method_66_code) (hR : Rm X 6 145) (hN : xnL X = 11) (hQ : QI X E K) (x0 : Nat) (x1 : Int32) (x2 : Int32) (x3 : Int32) (x4 : UInt64) (x6 : UInt64) (x8 : UInt64) (A : Mem) (h : wp_Mo_doFor_c92 K x0 x1 x2 x3 x4 x6 x8 A) : G X E A 92 [(0, cr E x0), (1, .int (x1)), (2, .int (x2)), (3, .int (x3)), (4, .double (x4)), (6, .double (x6)), (8, .double (x8))] [] := by
  unfold wp_Mo_doFor_c92 at h
  refine g_aload_n (pc := 92) hX d_Mo_doFor_92 rfl 0 rfl ?_
  obtain ⟨f19, h⟩ := h
  refine g_getI (pc := 93) hX fl_Mo_94 rfl f19 d_Mo_doFor_93 ?_
  refine g_if_eq (pc := 96) (tgt := 101) hX d_Mo_doFor_96 (by decide) (fun q => ?_) (fun q => ?_)
  · have h := h.1 q
    refine g_aload_n (pc := 101) hX d_Mo_doFor_101 rfl 0 rfl ?_
    refine g_iload_n (pc := 102) hX d_Mo_doFor_102 rfl 3 rfl ?_
    refine g_callV_I (pc := 103) hX hR f19 cf9 rfl lk_Mo_395 mf_Mo_loopFor (c_Mo_loopFor _ _ _ _ h) rfl rfl rfl ⟨by decide, by decide⟩ (cat_sum _ (Nat.le_of_ble_eq_true rfl)) d_Mo_doFor_103 (fun r21 A20 h => ?_)
    refine g_if_lt (pc := 106) (tgt := 118) hX d_Mo_doFor_106 (by decide) (fun q => ?_) (fun q => ?_)
    · have h := h.1 q
      refine g_sub [0, 1, 2, 3, 4, 5, 6] rfl ?_
      exact k_Mo_doFor_c118 hX hR hN hQ _ _ _ _ _ _ _ _ h
    · have h := h.2 q
      refine g_aload_n (pc := 109) hX d_Mo_doFor_109 rfl 0 rfl ?_
      refine g_aload_n (pc := 110) hX d_Mo_doFor_110 rfl 0 rfl ?_
      refine g_iload_n (pc := 111) hX d_Mo_doFor_111 rfl 3 rfl ?_
      refine g_callV_I (pc := 112) hX hR f19 cf9 rfl lk_Mo_395 mf_Mo_loopFor (c_Mo_loopFor _ _ _ _ h) rfl rfl rfl ⟨by decide, by decide⟩ (cat_sum _ (Nat.le_of_ble_eq_true rfl)) d_Mo_doFor_112 (fun r23 A22 h => ?_)
      refine g_putI (pc := 115) hX fl_Mo_82 rfl rfl rfl f19 d_Mo_doFor_115 ?_
      refine g_sub [0, 1, 2, 3, 4, 5, 6] rfl ?_
      exact k_Mo_doFor_c118 hX hR hN hQ _ _ _ _ _ _ _ _ h
  · have h := h.2 q
    refine g_iload_n (pc := 99) hX d_Mo_doFor_99 rfl 2 rfl ?_
    exact g_iret hX hQ h d_Mo_doFor_100
set_option maxRecDepth 100000 in
set_option maxHeartbeats 4000000 in
theorem k_Mo_doFor_c49 {X : CXT} {E : EVT} {K : Int32 → Mem → Prop} (hX : Gd X E "BasicMachineModel" prog_14_method_66_code) (hR : Rm X 6 145) (hN : xnL X = 11) (hQ : QI X E K) (x0 : Nat) (x1 : Int32) (x2 : Int32) (x3 : Int32) (x4 : UInt64) (s0 : UInt64) (A : Mem) (h : wp_Mo_doFor_c49 K x0 x1 x2 x3 x4 s0 A) : G X E A 49 [(0, cr E x0), (1, .int (x1)), (2, .int (x2)), (3, .int (x3)), (4, .double (x4))] [.double (s0)] := by
  unfold wp_Mo_doFor_c49 at h
  refine g_dstore (pc := 49) (lv0 := [(0, cr E x0), (1, .int (x1)), (2, .int (x2)), (3, .int (x3)), (4, .double (x4))]) hX d_Mo_doFor_49 (by rw [hN]; decide) (g_st2 (ks := [0, 1, 2, 3, 4]) rfl rfl) ?_
  refine g_dconst1 (pc := 51) hX d_Mo_doFor_51 ?_
  refine g_dstore (pc := 52) (lv0 := [(6, .double (s0)), (0, cr E x0), (1, .int (x1)), (2, .int (x2)), (3, .int (x3)), (4, .double (x4))]) hX d_Mo_doFor_52 (by rw [hN]; decide) (g_st2 (ks := [0, 1, 2, 3, 4, 5]) rfl rfl) ?_
  refine g_aload_n (pc := 54) hX d_Mo_doFor_54 rfl 2 rfl ?_
  obtain ⟨f12, h⟩ := h
  refine g_getI (pc := 55) hX fl_Mo_94 rfl f12 d_Mo_doFor_55 ?_
  refine g_if_ne (pc := 58) (tgt := 92) hX d_Mo_doFor_58 (by decide) (fun q => ?_) (fun q => ?_)
  · have h := h.1 q
    refine g_sub [2, 3, 4, 5, 6, 1, 0] rfl ?_
    exact k_Mo_doFor_c92 hX hR hN hQ _ _ _ _ _ _ _ _ h
  · have h := h.2 q
    refine g_aload_n (pc := 61) hX d_Mo_doFor_61 rfl 2 rfl ?_
    refine g_getR (pc := 62) hX fl_Mo_49 rfl f12 d_Mo_doFor_62 ?_
    refine g_iload_n (pc := 65) hX d_Mo_doFor_65 rfl 3 rfl ?_
    refine g_bipush (pc := 66) (v := 8) hX d_Mo_doFor_66 (by decide) ?_
    refine g_imul (pc := 68) hX d_Mo_doFor_68 ?_
    refine g_iconst (pc := 69) (v := 1) hX d_Mo_doFor_69 (by decide) ?_
    refine g_iadd (pc := 70) hX d_Mo_doFor_70 ?_
    obtain ⟨f13, h⟩ := h
    obtain ⟨f14, h⟩ := h
    refine g_iaload (pc := 71) hX f13 f14 d_Mo_doFor_71 ?_
    refine g_iconst (pc := 72) (v := 1) hX d_Mo_doFor_72 (by decide) ?_
    refine g_icmp_ne (pc := 73) (tgt := 92) hX d_Mo_doFor_73 (by decide) (fun q => ?_) (fun q => ?_)
    · have h := h.1 q
      refine g_sub [2, 3, 4, 5, 6, 1, 0] rfl ?_
      exact k_Mo_doFor_c92 hX hR hN hQ _ _ _ _ _ _ _ _ h
    · have h := h.2 q
      refine g_aload_n (pc := 76) hX d_Mo_doFor_76 rfl 2 rfl ?_
      refine g_aload_n (pc := 77) hX d_Mo_doFor_77 rfl 2 rfl ?_
      refine g_getR (pc := 78) hX fl_Mo_52 rfl f12 d_Mo_doFor_78 ?_
      refine g_iload_n (pc := 81) hX d_Mo_doFor_81 rfl 3 rfl ?_
      refine g_iconst (pc := 82) (v := 4) hX d_Mo_doFor_82 (by decide) ?_
      refine g_imul (pc := 83) hX d_Mo_doFor_83 ?_
      refine g_iconst (pc := 84) (v := 2) hX d_Mo_doFor_84 (by decide) ?_
      refine g_iadd (pc := 85) hX d_Mo_doFor_85 ?_
      obtain ⟨f15, h⟩ := h
      obtain ⟨f16, h⟩ := h
      refine g_iaload (pc := 86) hX f15 f16 d_Mo_doFor_86 ?_
      refine g_callV_D (pc := 87) hX hR f12 cf9 rfl lk_Mo_392 mf_Mo_work (c_Mo_work _ _ _ _ h) rfl rfl rfl ⟨by decide, by decide⟩ (cat_sum _ (Nat.le_of_ble_eq_true rfl)) d_Mo_doFor_87 (fun r18 A17 h => ?_)
      refine g_dstore (pc := 90) (lv0 := [(6, .double (s0)), (0, cr E x0), (1, .int (x1)), (2, .int (x2)), (3, .int (x3)), (4, .double (x4))]) hX d_Mo_doFor_90 (by rw [hN]; decide) (g_st2 (ks := [1, 2, 3, 4, 5, 6]) rfl rfl) ?_
      refine g_sub [2, 3, 4, 5, 6, 1, 0] rfl ?_
      exact k_Mo_doFor_c92 hX hR hN hQ _ _ _ _ _ _ _ _ h
set_option maxRecDepth 100000 in
set_option maxHeartbeats 4000000 in
theorem c_Mo_doFor (o : Nat) (p1 : Int32) (p2 : Int32) (A : Mem) (K : Int32 → Mem → Prop) (h : wp_Mo_doFor o p1 p2 A K) : CtI y_Mo_doFor prog_14_method_66_code 11 6 145 (fun E => [cr E o, .int (p1), .int (p2)]) A K := by
  refine ctI_of "BasicMachineModel" (by decide) rfl (fun E => [(0, cr E o), (1, .int (p1)), (2, .int (p2))]) (fun E => by simp [lg_sl, cr_cat, ca_i, ca_l, ca_d]) (fun E => by simp [lv_args, cr_cat, ca_i, ca_l, ca_d]) (fun X E hX hR hN hQ => ?_)
  unfold wp_Mo_doFor at h
  refine g_aload_n (pc := 0) hX d_Mo_doFor_0 rfl 0 rfl ?_
  obtain ⟨f1, h⟩ := h
  refine g_getR (pc := 1) hX fl_Mo_49 rfl f1 d_Mo_doFor_1 ?_
  refine g_iload_n (pc := 4) hX d_Mo_doFor_4 rfl 1 rfl ?_
  refine g_bipush (pc := 5) (v := 8) hX d_Mo_doFor_5 (by decide) ?_
  refine g_imul (pc := 7) hX d_Mo_doFor_7 ?_
  obtain ⟨f2, h⟩ := h
  obtain ⟨f3, h⟩ := h
  refine g_iaload (pc := 8) hX f2 f3 d_Mo_doFor_8 ?_
  refine g_istore_n (pc := 9) (lv0 := [(2, .int (p2)), (0, cr E o), (1, .int (p1))]) hX d_Mo_doFor_9 rfl (by rw [hN]; decide) (g_st1b (ks := [2, 0, 1]) rfl rfl rfl rfl) ?_
  refine g_aload_n (pc := 10) hX d_Mo_doFor_10 rfl 2 rfl ?_
  refine g_aload_n (pc := 11) hX d_Mo_doFor_11 rfl 2 rfl ?_
  refine g_getR (pc := 12) hX fl_Mo_52 rfl f1 d_Mo_doFor_12 ?_
  refine g_iload_n (pc := 15) hX d_Mo_doFor_15 rfl 3 rfl ?_
  refine g_iconst (pc := 16) (v := 4) hX d_Mo_doFor_16 (by decide) ?_
  refine g_imul (pc := 17) hX d_Mo_doFor_17 ?_
  obtain ⟨f4, h⟩ := h
  obtain ⟨f5, h⟩ := h
  refine g_iaload (pc := 18) hX f4 f5 d_Mo_doFor_18 ?_
  refine g_callV_D (pc := 19) hX hR f1 cf9 rfl lk_Mo_392 mf_Mo_work (c_Mo_work _ _ _ _ h) rfl rfl rfl ⟨by decide, by decide⟩ (cat_sum _ (Nat.le_of_ble_eq_true rfl)) d_Mo_doFor_19 (fun r7 A6 h => ?_)
  refine g_dstore (pc := 22) (lv0 := [(3, .int ((gI A (gR A o 12) (Int32.toNatClampNeg (p1 * 8))))), (2, .int (p2)), (0, cr E o), (1, .int (p1))]) hX d_Mo_doFor_22 (by rw [hN]; decide) (g_st2b (ks := [0, 1, 2, 3]) rfl rfl rfl rfl rfl) ?_
  refine g_aload_n (pc := 24) hX d_Mo_doFor_24 rfl 3 rfl ?_
  refine g_getI (pc := 25) hX fl_Mo_94 rfl f1 d_Mo_doFor_25 ?_
  refine g_if_ne (pc := 28) (tgt := 48) hX d_Mo_doFor_28 (by decide) (fun q => ?_) (fun q => ?_)
  · have h := h.1 q
    refine g_dconst0 (pc := 48) hX d_Mo_doFor_48 ?_
    refine g_sub [3, 4, 2, 1, 0] rfl ?_
    exact k_Mo_doFor_c49 hX hR hN hQ _ _ _ _ _ _ _ h
  · have h := h.2 q
    refine g_aload_n (pc := 31) hX d_Mo_doFor_31 rfl 3 rfl ?_
    refine g_aload_n (pc := 32) hX d_Mo_doFor_32 rfl 3 rfl ?_
    refine g_getR (pc := 33) hX fl_Mo_52 rfl f1 d_Mo_doFor_33 ?_
    refine g_iload_n (pc := 36) hX d_Mo_doFor_36 rfl 4 rfl ?_
    refine g_iconst (pc := 37) (v := 4) hX d_Mo_doFor_37 (by decide) ?_
    refine g_imul (pc := 38) hX d_Mo_doFor_38 ?_
    refine g_iconst (pc := 39) (v := 1) hX d_Mo_doFor_39 (by decide) ?_
    refine g_iadd (pc := 40) hX d_Mo_doFor_40 ?_
    obtain ⟨f8, h⟩ := h
    obtain ⟨f9, h⟩ := h
    refine g_iaload (pc := 41) hX f8 f9 d_Mo_doFor_41 ?_
    refine g_callV_D (pc := 42) hX hR f1 cf9 rfl lk_Mo_392 mf_Mo_work (c_Mo_work _ _ _ _ h) rfl rfl rfl ⟨by decide, by decide⟩ (cat_sum _ (Nat.le_of_ble_eq_true rfl)) d_Mo_doFor_42 (fun r11 A10 h => ?_)
    refine g_goto (pc := 45) (tgt := 49) hX d_Mo_doFor_45 (by decide) ?_
    refine g_sub [3, 4, 2, 1, 0] rfl ?_
    exact k_Mo_doFor_c49 hX hR hN hQ _ _ _ _ _ _ _ h
def wp_Mo_doNext (o : Nat) (p1 : Int32) (p2 : Int32) (A : Mem) (K : Int32 → Mem → Prop) : Prop := kd o = 9 ∧ kd (gR A o 12) = 51 ∧ vp_in (p1 * 8) (al (gR A o 12)) ∧ wp_Mo_loopFor o (gI A (gR A o 12) (Int32.toNatClampNeg (p1 * 8))) A (fun (r5 : Int32) (A4 : Mem) => ((0 ≤ r5 → kd (gR (sI A4 o 23 (r5 + 1)) o 29) = 53 ∧ vp_in (gI A (gR A o 12) (Int32.toNatClampNeg (p1 * 8))) (al (gR (sI A4 o 23 (r5 + 1)) o 29)) ∧ kd (gR (sI A4 o 23 (r5 + 1)) o 33) = 53 ∧ vp_in r5 (al (gR (sI A4 o 23 (r5 + 1)) o 33)) ∧ vf_n64 (FP.dadd (gD (sI A4 o 23 (r5 + 1)) (gR (sI A4 o 23 (r5 + 1)) o 29) (Int32.toNatClampNeg (gI A (gR A o 12) (Int32.toNatClampNeg (p1 * 8))))) (gD (sI A4 o 23 (r5 + 1)) (gR (sI A4 o 23 (r5 + 1)) o 33) (Int32.toNatClampNeg r5))) ∧ wp_Mo_kept o (FP.dadd (gD (sI A4 o 23 (r5 + 1)) (gR (sI A4 o 23 (r5 + 1)) o 29) (Int32.toNatClampNeg (gI A (gR A o 12) (Int32.toNatClampNeg (p1 * 8))))) (gD (sI A4 o 23 (r5 + 1)) (gR (sI A4 o 23 (r5 + 1)) o 33) (Int32.toNatClampNeg r5))) (sI A4 o 23 (r5 + 1)) (fun (r12 : UInt64) (A11 : Mem) => (((gI A11 o 27) = 0 → kd (gR A11 o 29) = 53 ∧ vp_in (gI A (gR A o 12) (Int32.toNatClampNeg (p1 * 8))) (al (gR A11 o 29)) ∧ kd (gR (sD A11 (gR A11 o 29) (Int32.toNatClampNeg (gI A (gR A o 12) (Int32.toNatClampNeg (p1 * 8)))) r12) o 32) = 53 ∧ vp_in r5 (al (gR (sD A11 (gR A11 o 29) (Int32.toNatClampNeg (gI A (gR A o 12) (Int32.toNatClampNeg (p1 * 8)))) r12) o 32)) ∧ kd (gR (sD A11 (gR A11 o 29) (Int32.toNatClampNeg (gI A (gR A o 12) (Int32.toNatClampNeg (p1 * 8)))) r12) o 33) = 53 ∧ vp_in r5 (al (gR (sD A11 (gR A11 o 29) (Int32.toNatClampNeg (gI A (gR A o 12) (Int32.toNatClampNeg (p1 * 8)))) r12) o 33)) ∧ wp_Mo_over o r12 (gD (sD A11 (gR A11 o 29) (Int32.toNatClampNeg (gI A (gR A o 12) (Int32.toNatClampNeg (p1 * 8)))) r12) (gR (sD A11 (gR A11 o 29) (Int32.toNatClampNeg (gI A (gR A o 12) (Int32.toNatClampNeg (p1 * 8)))) r12) o 32) (Int32.toNatClampNeg r5)) (gD (sD A11 (gR A11 o 29) (Int32.toNatClampNeg (gI A (gR A o 12) (Int32.toNatClampNeg (p1 * 8)))) r12) (gR (sD A11 (gR A11 o 29) (Int32.toNatClampNeg (gI A (gR A o 12) (Int32.toNatClampNeg (p1 * 8)))) r12) o 33) (Int32.toNatClampNeg r5)) (sD A11 (gR A11 o 29) (Int32.toNatClampNeg (gI A (gR A o 12) (Int32.toNatClampNeg (p1 * 8)))) r12) (fun (r20 : Bool) (A19 : Mem) => ((r20 = true → K p2 (sI A19 o 23 r5)) ∧ (r20 = false → kd (gR A19 o 42) = 51 ∧ vp_in r5 (al (gR A19 o 42)) ∧ kd (gR A19 o 10) = 51 ∧ vp_in (gI A19 (gR A19 o 42) (Int32.toNatClampNeg r5)) (al (gR A19 o 10)) ∧ wp_Mo_nextSlot o (gI A19 (gR A19 o 10) (Int32.toNatClampNeg (gI A19 (gR A19 o 42) (Int32.toNatClampNeg r5)))) A19 (fun (r26 : Int32) (A25 : Mem) => K r26 A25))))) ∧ (¬ (gI A11 o 27) = 0 → K p2 A11)))) ∧ (¬ 0 ≤ r5 → K p2 (sI A4 o 27 2))))
set_option maxRecDepth 100000 in
set_option maxHeartbeats 4000000 in
theorem c_Mo_doNext (o : Nat) (p1 : Int32) (p2 : Int32) (A : Mem) (K : Int32 → Mem → Prop) (h : wp_Mo_doNext o p1 p2 A K) : CtI y_Mo_doNext prog_14_method_67_code 7 1 26 (fun E => [cr E o, .int (p1), .int (p2)]) A K := by
  refine ctI_of "BasicMachineModel" (by decide) rfl (fun E => [(0, cr E o), (1, .int (p1)), (2, .int (p2))]) (fun E => by simp [lg_sl, cr_cat, ca_i, ca_l, ca_d]) (fun E => by simp [lv_args, cr_cat, ca_i, ca_l, ca_d]) (fun X E hX hR hN hQ => ?_)
  unfold wp_Mo_doNext at h
  refine g_aload_n (pc := 0) hX d_Mo_doNext_0 rfl 0 rfl ?_
  obtain ⟨f1, h⟩ := h
  refine g_getR (pc := 1) hX fl_Mo_49 rfl f1 d_Mo_doNext_1 ?_
  refine g_iload_n (pc := 4) hX d_Mo_doNext_4 rfl 1 rfl ?_
  refine g_bipush (pc := 5) (v := 8) hX d_Mo_doNext_5 (by decide) ?_
  refine g_imul (pc := 7) hX d_Mo_doNext_7 ?_
  obtain ⟨f2, h⟩ := h
  obtain ⟨f3, h⟩ := h
  refine g_iaload (pc := 8) hX f2 f3 d_Mo_doNext_8 ?_
  refine g_istore_n (pc := 9) (lv0 := [(2, .int (p2)), (0, cr E o), (1, .int (p1))]) hX d_Mo_doNext_9 rfl (by rw [hN]; decide) (g_st1b (ks := [2, 0, 1]) rfl rfl rfl rfl) ?_
  refine g_aload_n (pc := 10) hX d_Mo_doNext_10 rfl 2 rfl ?_
  refine g_iload_n (pc := 11) hX d_Mo_doNext_11 rfl 0 rfl ?_
  refine g_callV_I (pc := 12) hX hR f1 cf9 rfl lk_Mo_395 mf_Mo_loopFor (c_Mo_loopFor _ _ _ _ h) rfl rfl rfl ⟨by decide, by decide⟩ (cat_sum _ (Nat.le_of_ble_eq_true rfl)) d_Mo_doNext_12 (fun r5 A4 h => ?_)
  refine g_istore (pc := 15) (lv0 := [(3, .int ((gI A (gR A o 12) (Int32.toNatClampNeg (p1 * 8))))), (2, .int (p2)), (0, cr E o), (1, .int (p1))]) hX d_Mo_doNext_15 (by rw [hN]; decide) (g_st1b (ks := [0, 1, 2, 3]) rfl rfl rfl rfl) ?_
  refine g_iload (pc := 17) hX d_Mo_doNext_17 0 rfl ?_
  refine g_if_ge (pc := 19) (tgt := 29) hX d_Mo_doNext_19 (by decide) (fun q => ?_) (fun q => ?_)
  · have h := h.1 q
    refine g_aload_n (pc := 29) hX d_Mo_doNext_29 rfl 3 rfl ?_
    refine g_iload (pc := 30) hX d_Mo_doNext_30 0 rfl ?_
    refine g_iconst (pc := 32) (v := 1) hX d_Mo_doNext_32 (by decide) ?_
    refine g_iadd (pc := 33) hX d_Mo_doNext_33 ?_
    refine g_putI (pc := 34) hX fl_Mo_82 rfl rfl rfl f1 d_Mo_doNext_34 ?_
    refine g_aload_n (pc := 37) hX d_Mo_doNext_37 rfl 3 rfl ?_
    refine g_aload_n (pc := 38) hX d_Mo_doNext_38 rfl 3 rfl ?_
    refine g_getR (pc := 39) hX fl_Mo_101 rfl f1 d_Mo_doNext_39 ?_
    refine g_iload_n (pc := 42) hX d_Mo_doNext_42 rfl 1 rfl ?_
    obtain ⟨f6, h⟩ := h
    obtain ⟨f7, h⟩ := h
    refine g_daload (pc := 43) hX f6 f7 d_Mo_doNext_43 ?_
    refine g_aload_n (pc := 44) hX d_Mo_doNext_44 rfl 3 rfl ?_
    refine g_getR (pc := 45) hX fl_Mo_113 rfl f1 d_Mo_doNext_45 ?_
    refine g_iload (pc := 48) hX d_Mo_doNext_48 0 rfl ?_
    obtain ⟨f8, h⟩ := h
    obtain ⟨f9, h⟩ := h
    refine g_daload (pc := 50) hX f8 f9 d_Mo_doNext_50 ?_
    obtain ⟨f10, h⟩ := h
    refine g_dadd (pc := 51) hX d_Mo_doNext_51 f10 ?_
    refine g_callV_D (pc := 52) hX hR f1 cf9 rfl lk_Mo_342 mf_Mo_kept (c_Mo_kept _ _ _ _ h) rfl rfl rfl ⟨by decide, by decide⟩ (cat_sum _ (Nat.le_of_ble_eq_true rfl)) d_Mo_doNext_52 (fun r12 A11 h => ?_)
    refine g_dstore (pc := 55) (lv0 := [(4, .int (r5)), (3, .int ((gI A (gR A o 12) (Int32.toNatClampNeg (p1 * 8))))), (2, .int (p2)), (0, cr E o), (1, .int (p1))]) hX d_Mo_doNext_55 (by rw [hN]; decide) (g_st2b (ks := [0, 1, 2, 3, 4]) rfl rfl rfl rfl rfl) ?_
    refine g_aload_n (pc := 57) hX d_Mo_doNext_57 rfl 4 rfl ?_
    refine g_getI (pc := 58) hX fl_Mo_94 rfl f1 d_Mo_doNext_58 ?_
    refine g_if_eq (pc := 61) (tgt := 66) hX d_Mo_doNext_61 (by decide) (fun q => ?_) (fun q => ?_)
    · have h := h.1 q
      refine g_aload_n (pc := 66) hX d_Mo_doNext_66 rfl 4 rfl ?_
      refine g_getR (pc := 67) hX fl_Mo_101 rfl f1 d_Mo_doNext_67 ?_
      refine g_iload_n (pc := 70) hX d_Mo_doNext_70 rfl 2 rfl ?_
      refine g_dload (pc := 71) hX d_Mo_doNext_71 0 rfl ?_
      obtain ⟨f13, h⟩ := h
      obtain ⟨f14, h⟩ := h
      refine g_dastore (pc := 73) hX f13 f14 d_Mo_doNext_73 ?_
      refine g_aload_n (pc := 74) hX d_Mo_doNext_74 rfl 4 rfl ?_
      refine g_dload (pc := 75) hX d_Mo_doNext_75 0 rfl ?_
      refine g_aload_n (pc := 77) hX d_Mo_doNext_77 rfl 4 rfl ?_
      refine g_getR (pc := 78) hX fl_Mo_110 rfl f1 d_Mo_doNext_78 ?_
      refine g_iload (pc := 81) hX d_Mo_doNext_81 1 rfl ?_
      obtain ⟨f15, h⟩ := h
      obtain ⟨f16, h⟩ := h
      refine g_daload (pc := 83) hX f15 f16 d_Mo_doNext_83 ?_
      refine g_aload_n (pc := 84) hX d_Mo_doNext_84 rfl 4 rfl ?_
      refine g_getR (pc := 85) hX fl_Mo_113 rfl f1 d_Mo_doNext_85 ?_
      refine g_iload (pc := 88) hX d_Mo_doNext_88 1 rfl ?_
      obtain ⟨f17, h⟩ := h
      obtain ⟨f18, h⟩ := h
      refine g_daload (pc := 90) hX f17 f18 d_Mo_doNext_90 ?_
      refine g_callV_Z (pc := 91) hX hR f1 cf9 rfl lk_Mo_398 mf_Mo_over (c_Mo_over _ _ _ _ _ _ h) rfl rfl rfl ⟨by decide, by decide⟩ (cat_sum _ (Nat.le_of_ble_eq_true rfl)) d_Mo_doNext_91 (fun r20 A19 h => ?_)
      refine g_ifB_ne (pc := 94) (tgt := 114) hX d_Mo_doNext_94 (by decide) (fun q => ?_) (fun q => ?_)
      · have h := h.1 q
        refine g_aload_n (pc := 114) hX d_Mo_doNext_114 rfl 4 rfl ?_
        refine g_iload (pc := 115) hX d_Mo_doNext_115 1 rfl ?_
        refine g_putI (pc := 117) hX fl_Mo_82 rfl rfl rfl f1 d_Mo_doNext_117 ?_
        refine g_iload_n (pc := 120) hX d_Mo_doNext_120 rfl 3 rfl ?_
        exact g_iret hX hQ h d_Mo_doNext_121
      · have h := h.2 q
        refine g_aload_n (pc := 97) hX d_Mo_doNext_97 rfl 4 rfl ?_
        refine g_aload_n (pc := 98) hX d_Mo_doNext_98 rfl 4 rfl ?_
        refine g_getR (pc := 99) hX fl_Mo_42 rfl f1 d_Mo_doNext_99 ?_
        refine g_aload_n (pc := 102) hX d_Mo_doNext_102 rfl 4 rfl ?_
        refine g_getR (pc := 103) hX fl_Mo_140 rfl f1 d_Mo_doNext_103 ?_
        refine g_iload (pc := 106) hX d_Mo_doNext_106 1 rfl ?_
        obtain ⟨f21, h⟩ := h
        obtain ⟨f22, h⟩ := h
        refine g_iaload (pc := 108) hX f21 f22 d_Mo_doNext_108 ?_
        obtain ⟨f23, h⟩ := h
        obtain ⟨f24, h⟩ := h
        refine g_iaload (pc := 109) hX f23 f24 d_Mo_doNext_109 ?_
        refine g_callV_I (pc := 110) hX hR f1 cf9 rfl lk_Mo_389 mf_Mo_nextSlot (c_Mo_nextSlot _ _ _ _ h) rfl rfl rfl ⟨by decide, by decide⟩ (cat_sum _ (Nat.le_of_ble_eq_true rfl)) d_Mo_doNext_110 (fun r26 A25 h => ?_)
        exact g_iret hX hQ h d_Mo_doNext_113
    · have h := h.2 q
      refine g_iload_n (pc := 64) hX d_Mo_doNext_64 rfl 3 rfl ?_
      exact g_iret hX hQ h d_Mo_doNext_65
  · have h := h.2 q
    refine g_aload_n (pc := 22) hX d_Mo_doNext_22 rfl 3 rfl ?_
    refine g_iconst (pc := 23) (v := 2) hX d_Mo_doNext_23 (by decide) ?_
    refine g_putI (pc := 24) hX fl_Mo_94 rfl rfl rfl f1 d_Mo_doNext_24 ?_
    refine g_iload_n (pc := 27) hX d_Mo_doNext_27 rfl 2 rfl ?_
    exact g_iret hX hQ h d_Mo_doNext_28
def wp_Mo_choose (o : Nat) (p1 : Int32) (A : Mem) (K : Int32 → Mem → Prop) : Prop := kd o = 9 ∧ kd (gR A o 13) = 51 ∧ vp_in (p1 * 4) (al (gR A o 13)) ∧ wp_Mo_work o (gI A (gR A o 13) (Int32.toNatClampNeg (p1 * 4))) A (fun (r5 : UInt64) (A4 : Mem) => (((gI A4 o 27) = 0 → (((lg_cmp (FP.d2l r5) 1) < 0 → K (-1) (sI A4 o 27 1)) ∧ (¬ (lg_cmp (FP.d2l r5) 1) < 0 → kd (gR A4 o 12) = 51 ∧ vp_in (p1 * 8) (al (gR A4 o 12)) ∧ (((lg_cmp (FP.d2l r5) (Int32.toInt64 (gI A4 (gR A4 o 12) (Int32.toNatClampNeg (p1 * 8))))) ≤ 0 → vp_in ((p1 * 8) + (Int64.toInt32 (FP.d2l r5))) (al (gR A4 o 12)) ∧ wp_Mo_goTo o (gI A4 (gR A4 o 12) (Int32.toNatClampNeg ((p1 * 8) + (Int64.toInt32 (FP.d2l r5))))) A4 (fun (r10 : Int32) (A9 : Mem) => K r10 A9)) ∧ (¬ (lg_cmp (FP.d2l r5) (Int32.toInt64 (gI A4 (gR A4 o 12) (Int32.toNatClampNeg (p1 * 8))))) ≤ 0 → K (-1) (sI A4 o 27 1)))))) ∧ (¬ (gI A4 o 27) = 0 → K (-1) A4)))
set_option maxRecDepth 100000 in
set_option maxHeartbeats 4000000 in
theorem c_Mo_choose (o : Nat) (p1 : Int32) (A : Mem) (K : Int32 → Mem → Prop) (h : wp_Mo_choose o p1 A K) : CtI y_Mo_choose prog_14_method_68_code 6 6 145 (fun E => [cr E o, .int (p1)]) A K := by
  refine ctI_of "BasicMachineModel" (by decide) rfl (fun E => [(0, cr E o), (1, .int (p1))]) (fun E => by simp [lg_sl, cr_cat, ca_i, ca_l, ca_d]) (fun E => by simp [lv_args, cr_cat, ca_i, ca_l, ca_d]) (fun X E hX hR hN hQ => ?_)
  unfold wp_Mo_choose at h
  refine g_aload_n (pc := 0) hX d_Mo_choose_0 rfl 0 rfl ?_
  refine g_aload_n (pc := 1) hX d_Mo_choose_1 rfl 0 rfl ?_
  obtain ⟨f1, h⟩ := h
  refine g_getR (pc := 2) hX fl_Mo_52 rfl f1 d_Mo_choose_2 ?_
  refine g_iload_n (pc := 5) hX d_Mo_choose_5 rfl 1 rfl ?_
  refine g_iconst (pc := 6) (v := 4) hX d_Mo_choose_6 (by decide) ?_
  refine g_imul (pc := 7) hX d_Mo_choose_7 ?_
  obtain ⟨f2, h⟩ := h
  obtain ⟨f3, h⟩ := h
  refine g_iaload (pc := 8) hX f2 f3 d_Mo_choose_8 ?_
  refine g_callV_D (pc := 9) hX hR f1 cf9 rfl lk_Mo_392 mf_Mo_work (c_Mo_work _ _ _ _ h) rfl rfl rfl ⟨by decide, by decide⟩ (cat_sum _ (Nat.le_of_ble_eq_true rfl)) d_Mo_choose_9 (fun r5 A4 h => ?_)
  refine g_dstore_n (pc := 12) (lv0 := [(1, .int (p1)), (0, cr E o)]) hX d_Mo_choose_12 rfl (by rw [hN]; decide) (g_st2b (ks := [1, 0]) rfl rfl rfl rfl rfl) ?_
  refine g_aload_n (pc := 13) hX d_Mo_choose_13 rfl 2 rfl ?_
  refine g_getI (pc := 14) hX fl_Mo_94 rfl f1 d_Mo_choose_14 ?_
  refine g_if_eq (pc := 17) (tgt := 22) hX d_Mo_choose_17 (by decide) (fun q => ?_) (fun q => ?_)
  · have h := h.1 q
    refine g_dload_n (pc := 22) hX d_Mo_choose_22 rfl 0 rfl ?_
    refine g_d2l (pc := 23) hX d_Mo_choose_23 ?_
    refine g_lstore (pc := 24) (lv0 := [(2, .double (r5)), (1, .int (p1)), (0, cr E o)]) hX d_Mo_choose_24 (by rw [hN]; decide) (g_st2 (ks := [0, 1, 2]) rfl rfl) ?_
    refine g_lload (pc := 26) hX d_Mo_choose_26 0 rfl ?_
    refine g_lconst (pc := 28) (v := 1) hX d_Mo_choose_28 (by decide) ?_
    refine g_lcmp (pc := 29) hX d_Mo_choose_29 ?_
    refine g_if_lt (pc := 30) (tgt := 49) hX d_Mo_choose_30 (by decide) (fun q => ?_) (fun q => ?_)
    · have h := h.1 q
      refine g_aload_n (pc := 49) hX d_Mo_choose_49 rfl 3 rfl ?_
      refine g_iconst (pc := 50) (v := 1) hX d_Mo_choose_50 (by decide) ?_
      refine g_putI (pc := 51) hX fl_Mo_94 rfl rfl rfl f1 d_Mo_choose_51 ?_
      refine g_iconst (pc := 54) (v := (-1)) hX d_Mo_choose_54 (by decide) ?_
      exact g_iret hX hQ h d_Mo_choose_55
    · have h := h.2 q
      refine g_lload (pc := 33) hX d_Mo_choose_33 0 rfl ?_
      refine g_aload_n (pc := 35) hX d_Mo_choose_35 rfl 3 rfl ?_
      refine g_getR (pc := 36) hX fl_Mo_49 rfl f1 d_Mo_choose_36 ?_
      refine g_iload_n (pc := 39) hX d_Mo_choose_39 rfl 2 rfl ?_
      refine g_bipush (pc := 40) (v := 8) hX d_Mo_choose_40 (by decide) ?_
      refine g_imul (pc := 42) hX d_Mo_choose_42 ?_
      obtain ⟨f6, h⟩ := h
      obtain ⟨f7, h⟩ := h
      refine g_iaload (pc := 43) hX f6 f7 d_Mo_choose_43 ?_
      refine g_i2l (pc := 44) hX d_Mo_choose_44 ?_
      refine g_lcmp (pc := 45) hX d_Mo_choose_45 ?_
      refine g_if_le (pc := 46) (tgt := 56) hX d_Mo_choose_46 (by decide) (fun q => ?_) (fun q => ?_)
      · have h := h.1 q
        refine g_aload_n (pc := 56) hX d_Mo_choose_56 rfl 3 rfl ?_
        refine g_aload_n (pc := 57) hX d_Mo_choose_57 rfl 3 rfl ?_
        refine g_getR (pc := 58) hX fl_Mo_49 rfl f1 d_Mo_choose_58 ?_
        refine g_iload_n (pc := 61) hX d_Mo_choose_61 rfl 2 rfl ?_
        refine g_bipush (pc := 62) (v := 8) hX d_Mo_choose_62 (by decide) ?_
        refine g_imul (pc := 64) hX d_Mo_choose_64 ?_
        refine g_lload (pc := 65) hX d_Mo_choose_65 0 rfl ?_
        refine g_l2i (pc := 67) hX d_Mo_choose_67 ?_
        refine g_iadd (pc := 68) hX d_Mo_choose_68 ?_
        obtain ⟨f8, h⟩ := h
        refine g_iaload (pc := 69) hX f6 f8 d_Mo_choose_69 ?_
        refine g_callV_I (pc := 70) hX hR f1 cf9 rfl lk_Mo_402 mf_Mo_goTo (c_Mo_goTo _ _ _ _ h) rfl rfl rfl ⟨by decide, by decide⟩ (cat_sum _ (Nat.le_of_ble_eq_true rfl)) d_Mo_choose_70 (fun r10 A9 h => ?_)
        exact g_iret hX hQ h d_Mo_choose_73
      · have h := h.2 q
        refine g_aload_n (pc := 49) hX d_Mo_choose_49 rfl 3 rfl ?_
        refine g_iconst (pc := 50) (v := 1) hX d_Mo_choose_50 (by decide) ?_
        refine g_putI (pc := 51) hX fl_Mo_94 rfl rfl rfl f1 d_Mo_choose_51 ?_
        refine g_iconst (pc := 54) (v := (-1)) hX d_Mo_choose_54 (by decide) ?_
        exact g_iret hX hQ h d_Mo_choose_55
  · have h := h.2 q
    refine g_iconst (pc := 20) (v := (-1)) hX d_Mo_choose_20 (by decide) ?_
    exact g_iret hX hQ h d_Mo_choose_21
def wp_Mo_goSub (o : Nat) (p1 : Int32) (p2 : Int32) (A : Mem) (K : Int32 → Mem → Prop) : Prop := kd o = 9 ∧ ((¬ (gI A o 22) = 8 → kd (gR A o 12) = 51 ∧ vp_in (p1 * 8) (al (gR A o 12)) ∧ wp_Mo_goTo o (gI A (gR A o 12) (Int32.toNatClampNeg (p1 * 8))) A (fun (r5 : Int32) (A4 : Mem) => ((¬ (gI A4 o 27) = 0 → K r5 A4) ∧ ((gI A4 o 27) = 0 → kd (gR A4 o 40) = 51 ∧ vp_in (gI A4 o 22) (al (gR A4 o 40)) ∧ ∀ A8 : Mem, A8 = (sI (sI A4 (gR A4 o 40) (Int32.toNatClampNeg (gI A4 o 22)) p2) o 22 ((gI (sI A4 (gR A4 o 40) (Int32.toNatClampNeg (gI A4 o 22)) p2) o 22) + 1)) → K r5 A8)))) ∧ ((gI A o 22) = 8 → K (-1) (sI A o 27 2)))
set_option maxRecDepth 100000 in
set_option maxHeartbeats 4000000 in
theorem c_Mo_goSub (o : Nat) (p1 : Int32) (p2 : Int32) (A : Mem) (K : Int32 → Mem → Prop) (h : wp_Mo_goSub o p1 p2 A K) : CtI y_Mo_goSub prog_14_method_69_code 4 2 44 (fun E => [cr E o, .int (p1), .int (p2)]) A K := by
  refine ctI_of "BasicMachineModel" (by decide) rfl (fun E => [(0, cr E o), (1, .int (p1)), (2, .int (p2))]) (fun E => by simp [lg_sl, cr_cat, ca_i, ca_l, ca_d]) (fun E => by simp [lv_args, cr_cat, ca_i, ca_l, ca_d]) (fun X E hX hR hN hQ => ?_)
  unfold wp_Mo_goSub at h
  refine g_aload_n (pc := 0) hX d_Mo_goSub_0 rfl 0 rfl ?_
  obtain ⟨f1, h⟩ := h
  refine g_getI (pc := 1) hX fl_Mo_79 rfl f1 d_Mo_goSub_1 ?_
  refine g_bipush (pc := 4) (v := 8) hX d_Mo_goSub_4 (by decide) ?_
  refine g_icmp_ne (pc := 6) (tgt := 16) hX d_Mo_goSub_6 (by decide) (fun q => ?_) (fun q => ?_)
  · have h := h.1 q
    refine g_aload_n (pc := 16) hX d_Mo_goSub_16 rfl 0 rfl ?_
    refine g_aload_n (pc := 17) hX d_Mo_goSub_17 rfl 0 rfl ?_
    refine g_getR (pc := 18) hX fl_Mo_49 rfl f1 d_Mo_goSub_18 ?_
    refine g_iload_n (pc := 21) hX d_Mo_goSub_21 rfl 1 rfl ?_
    refine g_bipush (pc := 22) (v := 8) hX d_Mo_goSub_22 (by decide) ?_
    refine g_imul (pc := 24) hX d_Mo_goSub_24 ?_
    obtain ⟨f2, h⟩ := h
    obtain ⟨f3, h⟩ := h
    refine g_iaload (pc := 25) hX f2 f3 d_Mo_goSub_25 ?_
    refine g_callV_I (pc := 26) hX hR f1 cf9 rfl lk_Mo_402 mf_Mo_goTo (c_Mo_goTo _ _ _ _ h) rfl rfl rfl ⟨by decide, by decide⟩ (cat_sum _ (Nat.le_of_ble_eq_true rfl)) d_Mo_goSub_26 (fun r5 A4 h => ?_)
    refine g_istore_n (pc := 29) (lv0 := [(2, .int (p2)), (0, cr E o), (1, .int (p1))]) hX d_Mo_goSub_29 rfl (by rw [hN]; decide) (g_st1b (ks := [2, 0, 1]) rfl rfl rfl rfl) ?_
    refine g_aload_n (pc := 30) hX d_Mo_goSub_30 rfl 2 rfl ?_
    refine g_getI (pc := 31) hX fl_Mo_94 rfl f1 d_Mo_goSub_31 ?_
    refine g_if_ne (pc := 34) (tgt := 57) hX d_Mo_goSub_34 (by decide) (fun q => ?_) (fun q => ?_)
    · have h := h.1 q
      refine g_iload_n (pc := 57) hX d_Mo_goSub_57 rfl 0 rfl ?_
      exact g_iret hX hQ h d_Mo_goSub_58
    · have h := h.2 q
      refine g_aload_n (pc := 37) hX d_Mo_goSub_37 rfl 2 rfl ?_
      refine g_getR (pc := 38) hX fl_Mo_134 rfl f1 d_Mo_goSub_38 ?_
      refine g_aload_n (pc := 41) hX d_Mo_goSub_41 rfl 2 rfl ?_
      refine g_getI (pc := 42) hX fl_Mo_79 rfl f1 d_Mo_goSub_42 ?_
      refine g_iload_n (pc := 45) hX d_Mo_goSub_45 rfl 1 rfl ?_
      obtain ⟨f6, h⟩ := h
      obtain ⟨f7, h⟩ := h
      refine g_iastore (pc := 46) hX f6 f7 d_Mo_goSub_46 ?_
      refine g_aload_n (pc := 47) hX d_Mo_goSub_47 rfl 2 rfl ?_
      refine g_dup (pc := 48) hX d_Mo_goSub_48 (cr_cat _ _) ?_
      refine g_getI (pc := 49) hX fl_Mo_79 rfl f1 d_Mo_goSub_49 ?_
      refine g_iconst (pc := 52) (v := 1) hX d_Mo_goSub_52 (by decide) ?_
      refine g_iadd (pc := 53) hX d_Mo_goSub_53 ?_
      refine g_putI (pc := 54) hX fl_Mo_79 rfl rfl rfl f1 d_Mo_goSub_54 ?_
      refine g_nm (fun A8 eA8 => ?_)
      have h := h A8 eA8
      refine g_iload_n (pc := 57) hX d_Mo_goSub_57 rfl 0 rfl ?_
      exact g_iret hX hQ h d_Mo_goSub_58
  · have h := h.2 q
    refine g_aload_n (pc := 9) hX d_Mo_goSub_9 rfl 0 rfl ?_
    refine g_iconst (pc := 10) (v := 2) hX d_Mo_goSub_10 (by decide) ?_
    refine g_putI (pc := 11) hX fl_Mo_94 rfl rfl rfl f1 d_Mo_goSub_11 ?_
    refine g_iconst (pc := 14) (v := (-1)) hX d_Mo_goSub_14 (by decide) ?_
    exact g_iret hX hQ h d_Mo_goSub_15
def wp_Mo_matCell_c212 (K : UInt64 → Mem → Prop) : Nat → Nat → Int32 → Int32 → Int32 → Int32 → UInt64 → Int32 → Mem → Prop
  | 0, _, _, _, _, _, _, _, _ => False
  | n + 1, x0, x2, x3, x4, x5, x9, x11, A => kd x0 = 9 ∧ kd (gR A x0 39) = 51 ∧ vp_in x2 (al (gR A x0 39)) ∧ (((gI A (gR A x0 39) (Int32.toNatClampNeg x2)) ≤ x11 → K x9 A) ∧ (¬ (gI A (gR A x0 39) (Int32.toNatClampNeg x2)) ≤ x11 → ((¬ (gI A x0 27) = 0 → K x9 A) ∧ ((gI A x0 27) = 0 → kd (gR A x0 35) = 53 ∧ vp_in (((x2 * 36) + (x4 * 6)) + x11) (al (gR A x0 35)) ∧ vp_in (((x3 * 36) + (x11 * 6)) + x5) (al (gR A x0 35)) ∧ vf_n64 (FP.dmul (gD A (gR A x0 35) (Int32.toNatClampNeg (((x2 * 36) + (x4 * 6)) + x11))) (gD A (gR A x0 35) (Int32.toNatClampNeg (((x3 * 36) + (x11 * 6)) + x5)))) ∧ wp_Mo_kept x0 (FP.dmul (gD A (gR A x0 35) (Int32.toNatClampNeg (((x2 * 36) + (x4 * 6)) + x11))) (gD A (gR A x0 35) (Int32.toNatClampNeg (((x3 * 36) + (x11 * 6)) + x5)))) A (fun (r42 : UInt64) (A41 : Mem) => ((¬ (gI A41 x0 27) = 0 → wp_Mo_matCell_c212 K n x0 x2 x3 x4 x5 x9 (x11 + 1) A41) ∧ ((gI A41 x0 27) = 0 → vf_n64 (FP.dadd x9 r42) ∧ wp_Mo_kept x0 (FP.dadd x9 r42) A41 (fun (r45 : UInt64) (A44 : Mem) => wp_Mo_matCell_c212 K n x0 x2 x3 x4 x5 r45 (x11 + 1) A44))))))))
def wp_Mo_matCell (o : Nat) (p1 : Int32) (p2 : Int32) (p3 : Int32) (p4 : Int32) (p5 : Int32) (p6 : UInt64) (A : Mem) (K : UInt64 → Mem → Prop) : Prop := ((2 ≤ p1 → ((¬ p1 = 2 → ((¬ p1 = 3 → ((¬ p1 = 4 → ((¬ p1 = 5 → ((¬ p1 = 6 → ((¬ p1 = 7 → kd o = 9 ∧ kd (gR A o 35) = 53 ∧ vp_in ((p2 * 36) + (p4 * 6)) (al (gR A o 35)) ∧ vp_in ((p3 * 36) + p5) (al (gR A o 35)) ∧ vf_n64 (FP.dmul (gD A (gR A o 35) (Int32.toNatClampNeg ((p2 * 36) + (p4 * 6)))) (gD A (gR A o 35) (Int32.toNatClampNeg ((p3 * 36) + p5)))) ∧ wp_Mo_kept o (FP.dmul (gD A (gR A o 35) (Int32.toNatClampNeg ((p2 * 36) + (p4 * 6)))) (gD A (gR A o 35) (Int32.toNatClampNeg ((p3 * 36) + p5)))) A (fun (r7 : UInt64) (A6 : Mem) => (∃ n9 : Nat, wp_Mo_matCell_c212 K n9 o p2 p3 p4 p5 r7 1 A6))) ∧ (p1 = 7 → kd o = 9 ∧ kd (gR A o 35) = 53 ∧ vp_in ((p2 * 36) + ((p4 * 6) + p5)) (al (gR A o 35)) ∧ vp_in ((p3 * 36) + ((p4 * 6) + p5)) (al (gR A o 35)) ∧ vf_n64 (FP.dsub (gD A (gR A o 35) (Int32.toNatClampNeg ((p2 * 36) + ((p4 * 6) + p5)))) (gD A (gR A o 35) (Int32.toNatClampNeg ((p3 * 36) + ((p4 * 6) + p5))))) ∧ wp_Mo_kept o (FP.dsub (gD A (gR A o 35) (Int32.toNatClampNeg ((p2 * 36) + ((p4 * 6) + p5)))) (gD A (gR A o 35) (Int32.toNatClampNeg ((p3 * 36) + ((p4 * 6) + p5))))) A (fun (r14 : UInt64) (A13 : Mem) => K r14 A13)))) ∧ (p1 = 6 → kd o = 9 ∧ kd (gR A o 35) = 53 ∧ vp_in ((p2 * 36) + ((p4 * 6) + p5)) (al (gR A o 35)) ∧ vp_in ((p3 * 36) + ((p4 * 6) + p5)) (al (gR A o 35)) ∧ vf_n64 (FP.dadd (gD A (gR A o 35) (Int32.toNatClampNeg ((p2 * 36) + ((p4 * 6) + p5)))) (gD A (gR A o 35) (Int32.toNatClampNeg ((p3 * 36) + ((p4 * 6) + p5))))) ∧ wp_Mo_kept o (FP.dadd (gD A (gR A o 35) (Int32.toNatClampNeg ((p2 * 36) + ((p4 * 6) + p5)))) (gD A (gR A o 35) (Int32.toNatClampNeg ((p3 * 36) + ((p4 * 6) + p5))))) A (fun (r21 : UInt64) (A20 : Mem) => K r21 A20)))) ∧ (p1 = 5 → kd o = 9 ∧ kd (gR A o 35) = 53 ∧ vp_in ((p2 * 36) + ((p4 * 6) + p5)) (al (gR A o 35)) ∧ K (gD A (gR A o 35) (Int32.toNatClampNeg ((p2 * 36) + ((p4 * 6) + p5)))) A))) ∧ (p1 = 4 → kd o = 9 ∧ kd (gR A o 35) = 53 ∧ vp_in ((p2 * 36) + ((p4 * 6) + p5)) (al (gR A o 35)) ∧ vf_n64 (FP.dmul p6 (gD A (gR A o 35) (Int32.toNatClampNeg ((p2 * 36) + ((p4 * 6) + p5))))) ∧ wp_Mo_kept o (FP.dmul p6 (gD A (gR A o 35) (Int32.toNatClampNeg ((p2 * 36) + ((p4 * 6) + p5))))) A (fun (r30 : UInt64) (A29 : Mem) => K r30 A29)))) ∧ (p1 = 3 → kd o = 9 ∧ kd (gR A o 35) = 53 ∧ vp_in (((p2 * 36) + (p5 * 6)) + p4) (al (gR A o 35)) ∧ K (gD A (gR A o 35) (Int32.toNatClampNeg (((p2 * 36) + (p5 * 6)) + p4))) A))) ∧ (p1 = 2 → ((¬ p4 = p5 → K FP.dconst0 A) ∧ (p4 = p5 → K FP.dconst1 A))))) ∧ (¬ 2 ≤ p1 → K (FP.i2d p1) A))
set_option maxRecDepth 100000 in
set_option maxHeartbeats 4000000 in
theorem k_Mo_matCell_c212 {X : CXT} {E : EVT} {K : UInt64 → Mem → Prop} (hX : Gd X E "BasicMachineModel" prog_14_method_70_code) (hR : Rm X 1 22) (hN : xnL X = 14) (hQ : QD X E K) : ∀ (n : Nat) (x0 : Nat) (x2 : Int32) (x3 : Int32) (x4 : Int32) (x5 : Int32) (x9 : UInt64) (x11 : Int32) (A : Mem), wp_Mo_matCell_c212 K n x0 x2 x3 x4 x5 x9 x11 A → G X E A 212 [(0, cr E x0), (2, .int (x2)), (3, .int (x3)), (4, .int (x4)), (5, .int (x5)), (9, .double (x9)), (11, .int (x11))] [] := by
  intro n
  induction n with
  | zero => intro x0 x2 x3 x4 x5 x9 x11 A h; exact h.elim
  | succ n ih =>
    intro x0 x2 x3 x4 x5 x9 x11 A h
    rw [wp_Mo_matCell_c212] at h
    refine g_iload (pc := 212) hX d_Mo_matCell_212 6 rfl ?_
    refine g_aload_n (pc := 214) hX d_Mo_matCell_214 rfl 0 rfl ?_
    obtain ⟨f34, h⟩ := h
    refine g_getR (pc := 215) hX fl_Mo_131 rfl f34 d_Mo_matCell_215 ?_
    refine g_iload_n (pc := 218) hX d_Mo_matCell_218 rfl 1 rfl ?_
    obtain ⟨f35, h⟩ := h
    obtain ⟨f36, h⟩ := h
    refine g_iaload (pc := 219) hX f35 f36 d_Mo_matCell_219 ?_
    refine g_icmp_ge (pc := 220) (tgt := 297) hX d_Mo_matCell_220 (by decide) (fun q => ?_) (fun q => ?_)
    · have h := h.1 q
      refine g_dload (pc := 297) hX d_Mo_matCell_297 5 rfl ?_
      exact g_dret hX hQ h d_Mo_matCell_299
    · have h := h.2 q
      refine g_aload_n (pc := 223) hX d_Mo_matCell_223 rfl 0 rfl ?_
      refine g_getI (pc := 224) hX fl_Mo_94 rfl f34 d_Mo_matCell_224 ?_
      refine g_if_ne (pc := 227) (tgt := 297) hX d_Mo_matCell_227 (by decide) (fun q => ?_) (fun q => ?_)
      · have h := h.1 q
        refine g_dload (pc := 297) hX d_Mo_matCell_297 5 rfl ?_
        exact g_dret hX hQ h d_Mo_matCell_299
      · have h := h.2 q
        refine g_aload_n (pc := 230) hX d_Mo_matCell_230 rfl 0 rfl ?_
        refine g_aload_n (pc := 231) hX d_Mo_matCell_231 rfl 0 rfl ?_
        refine g_getR (pc := 232) hX fl_Mo_119 rfl f34 d_Mo_matCell_232 ?_
        refine g_iload_n (pc := 235) hX d_Mo_matCell_235 rfl 1 rfl ?_
        refine g_bipush (pc := 236) (v := 36) hX d_Mo_matCell_236 (by decide) ?_
        refine g_imul (pc := 238) hX d_Mo_matCell_238 ?_
        refine g_iload (pc := 239) hX d_Mo_matCell_239 3 rfl ?_
        refine g_bipush (pc := 241) (v := 6) hX d_Mo_matCell_241 (by decide) ?_
        refine g_imul (pc := 243) hX d_Mo_matCell_243 ?_
        refine g_iadd (pc := 244) hX d_Mo_matCell_244 ?_
        refine g_iload (pc := 245) hX d_Mo_matCell_245 6 rfl ?_
        refine g_iadd (pc := 247) hX d_Mo_matCell_247 ?_
        obtain ⟨f37, h⟩ := h
        obtain ⟨f38, h⟩ := h
        refine g_daload (pc := 248) hX f37 f38 d_Mo_matCell_248 ?_
        refine g_aload_n (pc := 249) hX d_Mo_matCell_249 rfl 0 rfl ?_
        refine g_getR (pc := 250) hX fl_Mo_119 rfl f34 d_Mo_matCell_250 ?_
        refine g_iload_n (pc := 253) hX d_Mo_matCell_253 rfl 2 rfl ?_
        refine g_bipush (pc := 254) (v := 36) hX d_Mo_matCell_254 (by decide) ?_
        refine g_imul (pc := 256) hX d_Mo_matCell_256 ?_
        refine g_iload (pc := 257) hX d_Mo_matCell_257 6 rfl ?_
        refine g_bipush (pc := 259) (v := 6) hX d_Mo_matCell_259 (by decide) ?_
        refine g_imul (pc := 261) hX d_Mo_matCell_261 ?_
        refine g_iadd (pc := 262) hX d_Mo_matCell_262 ?_
        refine g_iload (pc := 263) hX d_Mo_matCell_263 4 rfl ?_
        refine g_iadd (pc := 265) hX d_Mo_matCell_265 ?_
        obtain ⟨f39, h⟩ := h
        refine g_daload (pc := 266) hX f37 f39 d_Mo_matCell_266 ?_
        obtain ⟨f40, h⟩ := h
        refine g_dmul (pc := 267) hX d_Mo_matCell_267 f40 ?_
        refine g_callV_D (pc := 268) hX hR f34 cf9 rfl lk_Mo_342 mf_Mo_kept (c_Mo_kept _ _ _ _ h) rfl rfl rfl ⟨by decide, by decide⟩ (cat_sum _ (Nat.le_of_ble_eq_true rfl)) d_Mo_matCell_268 (fun r42 A41 h => ?_)
        refine g_dstore (pc := 271) (lv0 := [(11, .int (x11)), (0, cr E x0), (2, .int (x2)), (3, .int (x3)), (4, .int (x4)), (5, .int (x5)), (9, .double (x9))]) hX d_Mo_matCell_271 (by rw [hN]; decide) (g_st2b (ks := [6, 0, 1, 2, 3, 4, 5]) rfl rfl rfl rfl rfl) ?_
        refine g_aload_n (pc := 273) hX d_Mo_matCell_273 rfl 2 rfl ?_
        refine g_getI (pc := 274) hX fl_Mo_94 rfl f34 d_Mo_matCell_274 ?_
        refine g_if_ne (pc := 277) (tgt := 291) hX d_Mo_matCell_277 (by decide) (fun q => ?_) (fun q => ?_)
        · have h := h.1 q
          refine g_iinc (pc := 291) (v := (x11 + 1)) (lv0 := [(12, .double (r42)), (0, cr E x0), (2, .int (x2)), (3, .int (x3)), (4, .int (x4)), (5, .int (x5)), (9, .double (x9))]) hX d_Mo_matCell_291 1 rfl rfl (by rw [hN]; decide) (g_st1 (ks := [0, 2, 3, 4, 5, 6, 7]) rfl rfl) ?_
          refine g_goto (pc := 294) (tgt := 212) hX d_Mo_matCell_294 (by decide) ?_
          refine g_sub [2, 3, 4, 5, 6, 7, 0] rfl ?_
          exact ih _ _ _ _ _ _ _ _ h
        · have h := h.2 q
          refine g_aload_n (pc := 280) hX d_Mo_matCell_280 rfl 2 rfl ?_
          refine g_dload (pc := 281) hX d_Mo_matCell_281 7 rfl ?_
          refine g_dload (pc := 283) hX d_Mo_matCell_283 0 rfl ?_
          obtain ⟨f43, h⟩ := h
          refine g_dadd (pc := 285) hX d_Mo_matCell_285 f43 ?_
          refine g_callV_D (pc := 286) hX hR f34 cf9 rfl lk_Mo_342 mf_Mo_kept (c_Mo_kept _ _ _ _ h) rfl rfl rfl ⟨by decide, by decide⟩ (cat_sum _ (Nat.le_of_ble_eq_true rfl)) d_Mo_matCell_286 (fun r45 A44 h => ?_)
          refine g_dstore (pc := 289) (lv0 := [(12, .double (r42)), (11, .int (x11)), (0, cr E x0), (2, .int (x2)), (3, .int (x3)), (4, .int (x4)), (5, .int (x5))]) hX d_Mo_matCell_289 (by rw [hN]; decide) (g_st2 (ks := [0, 1, 2, 3, 4, 5, 6]) rfl rfl) ?_
          refine g_iinc (pc := 291) (v := (x11 + 1)) (lv0 := [(9, .double (r45)), (12, .double (r42)), (0, cr E x0), (2, .int (x2)), (3, .int (x3)), (4, .int (x4)), (5, .int (x5))]) hX d_Mo_matCell_291 2 rfl rfl (by rw [hN]; decide) (g_st1 (ks := [0, 1, 3, 4, 5, 6, 7]) rfl rfl) ?_
          refine g_goto (pc := 294) (tgt := 212) hX d_Mo_matCell_294 (by decide) ?_
          refine g_sub [3, 4, 5, 6, 7, 1, 0] rfl ?_
          exact ih _ _ _ _ _ _ _ _ h
set_option maxRecDepth 100000 in
set_option maxHeartbeats 4000000 in
theorem c_Mo_matCell (o : Nat) (p1 : Int32) (p2 : Int32) (p3 : Int32) (p4 : Int32) (p5 : Int32) (p6 : UInt64) (A : Mem) (K : UInt64 → Mem → Prop) (h : wp_Mo_matCell o p1 p2 p3 p4 p5 p6 A K) : CtD y_Mo_matCell prog_14_method_70_code 14 1 22 (fun E => [cr E o, .int (p1), .int (p2), .int (p3), .int (p4), .int (p5), .double (p6)]) A K := by
  refine ctD_of "BasicMachineModel" (by decide) rfl (fun E => [(0, cr E o), (1, .int (p1)), (2, .int (p2)), (3, .int (p3)), (4, .int (p4)), (5, .int (p5)), (6, .double (p6))]) (fun E => by simp [lg_sl, cr_cat, ca_i, ca_l, ca_d]) (fun E => by simp [lv_args, cr_cat, ca_i, ca_l, ca_d]) (fun X E hX hR hN hQ => ?_)
  unfold wp_Mo_matCell at h
  refine g_iload (pc := 0) hX d_Mo_matCell_0 4 rfl ?_
  refine g_bipush (pc := 2) (v := 6) hX d_Mo_matCell_2 (by decide) ?_
  refine g_imul (pc := 4) hX d_Mo_matCell_4 ?_
  refine g_iload (pc := 5) hX d_Mo_matCell_5 5 rfl ?_
  refine g_iadd (pc := 7) hX d_Mo_matCell_7 ?_
  refine g_istore (pc := 8) (lv0 := [(0, cr E o), (1, .int (p1)), (2, .int (p2)), (3, .int (p3)), (4, .int (p4)), (5, .int (p5)), (6, .double (p6))]) hX d_Mo_matCell_8 (by rw [hN]; decide) (g_st1 (ks := [0, 1, 2, 3, 4, 5, 6]) rfl rfl) ?_
  refine g_iload_n (pc := 10) hX d_Mo_matCell_10 rfl 2 rfl ?_
  refine g_iconst (pc := 11) (v := 2) hX d_Mo_matCell_11 (by decide) ?_
  refine g_icmp_ge (pc := 12) (tgt := 18) hX d_Mo_matCell_12 (by decide) (fun q => ?_) (fun q => ?_)
  · have h := h.1 q
    refine g_iload_n (pc := 18) hX d_Mo_matCell_18 rfl 2 rfl ?_
    refine g_iconst (pc := 19) (v := 2) hX d_Mo_matCell_19 (by decide) ?_
    refine g_icmp_ne (pc := 20) (tgt := 36) hX d_Mo_matCell_20 (by decide) (fun q => ?_) (fun q => ?_)
    · have h := h.1 q
      refine g_iload_n (pc := 36) hX d_Mo_matCell_36 rfl 2 rfl ?_
      refine g_iconst (pc := 37) (v := 3) hX d_Mo_matCell_37 (by decide) ?_
      refine g_icmp_ne (pc := 38) (tgt := 60) hX d_Mo_matCell_38 (by decide) (fun q => ?_) (fun q => ?_)
      · have h := h.1 q
        refine g_iload_n (pc := 60) hX d_Mo_matCell_60 rfl 2 rfl ?_
        refine g_iconst (pc := 61) (v := 4) hX d_Mo_matCell_61 (by decide) ?_
        refine g_icmp_ne (pc := 62) (tgt := 85) hX d_Mo_matCell_62 (by decide) (fun q => ?_) (fun q => ?_)
        · have h := h.1 q
          refine g_iload_n (pc := 85) hX d_Mo_matCell_85 rfl 2 rfl ?_
          refine g_iconst (pc := 86) (v := 5) hX d_Mo_matCell_86 (by decide) ?_
          refine g_icmp_ne (pc := 87) (tgt := 103) hX d_Mo_matCell_87 (by decide) (fun q => ?_) (fun q => ?_)
          · have h := h.1 q
            refine g_iload_n (pc := 103) hX d_Mo_matCell_103 rfl 2 rfl ?_
            refine g_bipush (pc := 104) (v := 6) hX d_Mo_matCell_104 (by decide) ?_
            refine g_icmp_ne (pc := 106) (tgt := 139) hX d_Mo_matCell_106 (by decide) (fun q => ?_) (fun q => ?_)
            · have h := h.1 q
              refine g_iload_n (pc := 139) hX d_Mo_matCell_139 rfl 2 rfl ?_
              refine g_bipush (pc := 140) (v := 7) hX d_Mo_matCell_140 (by decide) ?_
              refine g_icmp_ne (pc := 142) (tgt := 175) hX d_Mo_matCell_142 (by decide) (fun q => ?_) (fun q => ?_)
              · have h := h.1 q
                refine g_aload_n (pc := 175) hX d_Mo_matCell_175 rfl 1 rfl ?_
                refine g_aload_n (pc := 176) hX d_Mo_matCell_176 rfl 1 rfl ?_
                obtain ⟨f1, h⟩ := h
                refine g_getR (pc := 177) hX fl_Mo_119 rfl f1 d_Mo_matCell_177 ?_
                refine g_iload_n (pc := 180) hX d_Mo_matCell_180 rfl 3 rfl ?_
                refine g_bipush (pc := 181) (v := 36) hX d_Mo_matCell_181 (by decide) ?_
                refine g_imul (pc := 183) hX d_Mo_matCell_183 ?_
                refine g_iload (pc := 184) hX d_Mo_matCell_184 5 rfl ?_
                refine g_bipush (pc := 186) (v := 6) hX d_Mo_matCell_186 (by decide) ?_
                refine g_imul (pc := 188) hX d_Mo_matCell_188 ?_
                refine g_iadd (pc := 189) hX d_Mo_matCell_189 ?_
                obtain ⟨f2, h⟩ := h
                obtain ⟨f3, h⟩ := h
                refine g_daload (pc := 190) hX f2 f3 d_Mo_matCell_190 ?_
                refine g_aload_n (pc := 191) hX d_Mo_matCell_191 rfl 1 rfl ?_
                refine g_getR (pc := 192) hX fl_Mo_119 rfl f1 d_Mo_matCell_192 ?_
                refine g_iload_n (pc := 195) hX d_Mo_matCell_195 rfl 4 rfl ?_
                refine g_bipush (pc := 196) (v := 36) hX d_Mo_matCell_196 (by decide) ?_
                refine g_imul (pc := 198) hX d_Mo_matCell_198 ?_
                refine g_iload (pc := 199) hX d_Mo_matCell_199 6 rfl ?_
                refine g_iadd (pc := 201) hX d_Mo_matCell_201 ?_
                obtain ⟨f4, h⟩ := h
                refine g_daload (pc := 202) hX f2 f4 d_Mo_matCell_202 ?_
                obtain ⟨f5, h⟩ := h
                refine g_dmul (pc := 203) hX d_Mo_matCell_203 f5 ?_
                refine g_callV_D (pc := 204) hX hR f1 cf9 rfl lk_Mo_342 mf_Mo_kept (c_Mo_kept _ _ _ _ h) rfl rfl rfl ⟨by decide, by decide⟩ (cat_sum _ (Nat.le_of_ble_eq_true rfl)) d_Mo_matCell_204 (fun r7 A6 h => ?_)
                refine g_dstore (pc := 207) (lv0 := [(8, .int (((p4 * 6) + p5))), (0, cr E o), (1, .int (p1)), (2, .int (p2)), (3, .int (p3)), (4, .int (p4)), (5, .int (p5)), (6, .double (p6))]) hX d_Mo_matCell_207 (by rw [hN]; decide) (g_st2b (ks := [0, 1, 2, 3, 4, 5, 6, 7]) rfl rfl rfl rfl rfl) ?_
                refine g_iconst (pc := 209) (v := 1) hX d_Mo_matCell_209 (by decide) ?_
                refine g_istore (pc := 210) (lv0 := [(9, .double (r7)), (8, .int (((p4 * 6) + p5))), (0, cr E o), (1, .int (p1)), (2, .int (p2)), (3, .int (p3)), (4, .int (p4)), (5, .int (p5)), (6, .double (p6))]) hX d_Mo_matCell_210 (by rw [hN]; decide) (g_st1 (ks := [0, 1, 2, 3, 4, 5, 6, 7, 8]) rfl rfl) ?_
                refine g_sub [3, 5, 6, 7, 8, 1, 0] rfl ?_
                obtain ⟨n9, h⟩ := h
                exact k_Mo_matCell_c212 hX hR hN hQ n9 _ _ _ _ _ _ _ _ h
              · have h := h.2 q
                refine g_aload_n (pc := 145) hX d_Mo_matCell_145 rfl 1 rfl ?_
                refine g_aload_n (pc := 146) hX d_Mo_matCell_146 rfl 1 rfl ?_
                obtain ⟨f8, h⟩ := h
                refine g_getR (pc := 147) hX fl_Mo_119 rfl f8 d_Mo_matCell_147 ?_
                refine g_iload_n (pc := 150) hX d_Mo_matCell_150 rfl 3 rfl ?_
                refine g_bipush (pc := 151) (v := 36) hX d_Mo_matCell_151 (by decide) ?_
                refine g_imul (pc := 153) hX d_Mo_matCell_153 ?_
                refine g_iload (pc := 154) hX d_Mo_matCell_154 0 rfl ?_
                refine g_iadd (pc := 156) hX d_Mo_matCell_156 ?_
                obtain ⟨f9, h⟩ := h
                obtain ⟨f10, h⟩ := h
                refine g_daload (pc := 157) hX f9 f10 d_Mo_matCell_157 ?_
                refine g_aload_n (pc := 158) hX d_Mo_matCell_158 rfl 1 rfl ?_
                refine g_getR (pc := 159) hX fl_Mo_119 rfl f8 d_Mo_matCell_159 ?_
                refine g_iload_n (pc := 162) hX d_Mo_matCell_162 rfl 4 rfl ?_
                refine g_bipush (pc := 163) (v := 36) hX d_Mo_matCell_163 (by decide) ?_
                refine g_imul (pc := 165) hX d_Mo_matCell_165 ?_
                refine g_iload (pc := 166) hX d_Mo_matCell_166 0 rfl ?_
                refine g_iadd (pc := 168) hX d_Mo_matCell_168 ?_
                obtain ⟨f11, h⟩ := h
                refine g_daload (pc := 169) hX f9 f11 d_Mo_matCell_169 ?_
                obtain ⟨f12, h⟩ := h
                refine g_dsub (pc := 170) hX d_Mo_matCell_170 f12 ?_
                refine g_callV_D (pc := 171) hX hR f8 cf9 rfl lk_Mo_342 mf_Mo_kept (c_Mo_kept _ _ _ _ h) rfl rfl rfl ⟨by decide, by decide⟩ (cat_sum _ (Nat.le_of_ble_eq_true rfl)) d_Mo_matCell_171 (fun r14 A13 h => ?_)
                exact g_dret hX hQ h d_Mo_matCell_174
            · have h := h.2 q
              refine g_aload_n (pc := 109) hX d_Mo_matCell_109 rfl 1 rfl ?_
              refine g_aload_n (pc := 110) hX d_Mo_matCell_110 rfl 1 rfl ?_
              obtain ⟨f15, h⟩ := h
              refine g_getR (pc := 111) hX fl_Mo_119 rfl f15 d_Mo_matCell_111 ?_
              refine g_iload_n (pc := 114) hX d_Mo_matCell_114 rfl 3 rfl ?_
              refine g_bipush (pc := 115) (v := 36) hX d_Mo_matCell_115 (by decide) ?_
              refine g_imul (pc := 117) hX d_Mo_matCell_117 ?_
              refine g_iload (pc := 118) hX d_Mo_matCell_118 0 rfl ?_
              refine g_iadd (pc := 120) hX d_Mo_matCell_120 ?_
              obtain ⟨f16, h⟩ := h
              obtain ⟨f17, h⟩ := h
              refine g_daload (pc := 121) hX f16 f17 d_Mo_matCell_121 ?_
              refine g_aload_n (pc := 122) hX d_Mo_matCell_122 rfl 1 rfl ?_
              refine g_getR (pc := 123) hX fl_Mo_119 rfl f15 d_Mo_matCell_123 ?_
              refine g_iload_n (pc := 126) hX d_Mo_matCell_126 rfl 4 rfl ?_
              refine g_bipush (pc := 127) (v := 36) hX d_Mo_matCell_127 (by decide) ?_
              refine g_imul (pc := 129) hX d_Mo_matCell_129 ?_
              refine g_iload (pc := 130) hX d_Mo_matCell_130 0 rfl ?_
              refine g_iadd (pc := 132) hX d_Mo_matCell_132 ?_
              obtain ⟨f18, h⟩ := h
              refine g_daload (pc := 133) hX f16 f18 d_Mo_matCell_133 ?_
              obtain ⟨f19, h⟩ := h
              refine g_dadd (pc := 134) hX d_Mo_matCell_134 f19 ?_
              refine g_callV_D (pc := 135) hX hR f15 cf9 rfl lk_Mo_342 mf_Mo_kept (c_Mo_kept _ _ _ _ h) rfl rfl rfl ⟨by decide, by decide⟩ (cat_sum _ (Nat.le_of_ble_eq_true rfl)) d_Mo_matCell_135 (fun r21 A20 h => ?_)
              exact g_dret hX hQ h d_Mo_matCell_138
          · have h := h.2 q
            refine g_aload_n (pc := 90) hX d_Mo_matCell_90 rfl 1 rfl ?_
            obtain ⟨f22, h⟩ := h
            refine g_getR (pc := 91) hX fl_Mo_119 rfl f22 d_Mo_matCell_91 ?_
            refine g_iload_n (pc := 94) hX d_Mo_matCell_94 rfl 3 rfl ?_
            refine g_bipush (pc := 95) (v := 36) hX d_Mo_matCell_95 (by decide) ?_
            refine g_imul (pc := 97) hX d_Mo_matCell_97 ?_
            refine g_iload (pc := 98) hX d_Mo_matCell_98 0 rfl ?_
            refine g_iadd (pc := 100) hX d_Mo_matCell_100 ?_
            obtain ⟨f23, h⟩ := h
            obtain ⟨f24, h⟩ := h
            refine g_daload (pc := 101) hX f23 f24 d_Mo_matCell_101 ?_
            exact g_dret hX hQ h d_Mo_matCell_102
        · have h := h.2 q
          refine g_aload_n (pc := 65) hX d_Mo_matCell_65 rfl 1 rfl ?_
          refine g_dload (pc := 66) hX d_Mo_matCell_66 7 rfl ?_
          refine g_aload_n (pc := 68) hX d_Mo_matCell_68 rfl 1 rfl ?_
          obtain ⟨f25, h⟩ := h
          refine g_getR (pc := 69) hX fl_Mo_119 rfl f25 d_Mo_matCell_69 ?_
          refine g_iload_n (pc := 72) hX d_Mo_matCell_72 rfl 3 rfl ?_
          refine g_bipush (pc := 73) (v := 36) hX d_Mo_matCell_73 (by decide) ?_
          refine g_imul (pc := 75) hX d_Mo_matCell_75 ?_
          refine g_iload (pc := 76) hX d_Mo_matCell_76 0 rfl ?_
          refine g_iadd (pc := 78) hX d_Mo_matCell_78 ?_
          obtain ⟨f26, h⟩ := h
          obtain ⟨f27, h⟩ := h
          refine g_daload (pc := 79) hX f26 f27 d_Mo_matCell_79 ?_
          obtain ⟨f28, h⟩ := h
          refine g_dmul (pc := 80) hX d_Mo_matCell_80 f28 ?_
          refine g_callV_D (pc := 81) hX hR f25 cf9 rfl lk_Mo_342 mf_Mo_kept (c_Mo_kept _ _ _ _ h) rfl rfl rfl ⟨by decide, by decide⟩ (cat_sum _ (Nat.le_of_ble_eq_true rfl)) d_Mo_matCell_81 (fun r30 A29 h => ?_)
          exact g_dret hX hQ h d_Mo_matCell_84
      · have h := h.2 q
        refine g_aload_n (pc := 41) hX d_Mo_matCell_41 rfl 1 rfl ?_
        obtain ⟨f31, h⟩ := h
        refine g_getR (pc := 42) hX fl_Mo_119 rfl f31 d_Mo_matCell_42 ?_
        refine g_iload_n (pc := 45) hX d_Mo_matCell_45 rfl 3 rfl ?_
        refine g_bipush (pc := 46) (v := 36) hX d_Mo_matCell_46 (by decide) ?_
        refine g_imul (pc := 48) hX d_Mo_matCell_48 ?_
        refine g_iload (pc := 49) hX d_Mo_matCell_49 6 rfl ?_
        refine g_bipush (pc := 51) (v := 6) hX d_Mo_matCell_51 (by decide) ?_
        refine g_imul (pc := 53) hX d_Mo_matCell_53 ?_
        refine g_iadd (pc := 54) hX d_Mo_matCell_54 ?_
        refine g_iload (pc := 55) hX d_Mo_matCell_55 5 rfl ?_
        refine g_iadd (pc := 57) hX d_Mo_matCell_57 ?_
        obtain ⟨f32, h⟩ := h
        obtain ⟨f33, h⟩ := h
        refine g_daload (pc := 58) hX f32 f33 d_Mo_matCell_58 ?_
        exact g_dret hX hQ h d_Mo_matCell_59
    · have h := h.2 q
      refine g_iload (pc := 23) hX d_Mo_matCell_23 5 rfl ?_
      refine g_iload (pc := 25) hX d_Mo_matCell_25 6 rfl ?_
      refine g_icmp_ne (pc := 27) (tgt := 34) hX d_Mo_matCell_27 (by decide) (fun q => ?_) (fun q => ?_)
      · have h := h.1 q
        refine g_dconst0 (pc := 34) hX d_Mo_matCell_34 ?_
        exact g_dret hX hQ h d_Mo_matCell_35
      · have h := h.2 q
        refine g_dconst1 (pc := 30) hX d_Mo_matCell_30 ?_
        refine g_goto (pc := 31) (tgt := 35) hX d_Mo_matCell_31 (by decide) ?_
        exact g_dret hX hQ h d_Mo_matCell_35
  · have h := h.2 q
    refine g_iload_n (pc := 15) hX d_Mo_matCell_15 rfl 2 rfl ?_
    refine g_i2d (pc := 16) hX d_Mo_matCell_16 ?_
    exact g_dret hX hQ h d_Mo_matCell_17
def wp_Mo_matFits (o : Nat) (p1 : Int32) (p2 : Int32) (p3 : Int32) (p4 : Int32) (A : Mem) (K : Bool → Mem → Prop) : Prop := ((3 ≤ p1 → kd o = 9 ∧ kd (gR A o 38) = 51 ∧ vp_in p3 (al (gR A o 38)) ∧ ((¬ (gI A (gR A o 38) (Int32.toNatClampNeg p3)) = 0 → ((6 ≤ p1 → vp_in p4 (al (gR A o 38)) ∧ ((¬ (gI A (gR A o 38) (Int32.toNatClampNeg p4)) = 0 → ((¬ p1 = 8 → ((¬ (gI A (gR A o 38) (Int32.toNatClampNeg p3)) = (gI A (gR A o 38) (Int32.toNatClampNeg p4)) → K false A) ∧ ((gI A (gR A o 38) (Int32.toNatClampNeg p3)) = (gI A (gR A o 38) (Int32.toNatClampNeg p4)) → kd (gR A o 39) = 51 ∧ vp_in p3 (al (gR A o 39)) ∧ vp_in p4 (al (gR A o 39)) ∧ ((¬ (gI A (gR A o 39) (Int32.toNatClampNeg p3)) = (gI A (gR A o 39) (Int32.toNatClampNeg p4)) → K false A) ∧ ((gI A (gR A o 39) (Int32.toNatClampNeg p3)) = (gI A (gR A o 39) (Int32.toNatClampNeg p4)) → K true A))))) ∧ (p1 = 8 → kd (gR A o 39) = 51 ∧ vp_in p3 (al (gR A o 39)) ∧ ((¬ (gI A (gR A o 39) (Int32.toNatClampNeg p3)) = (gI A (gR A o 38) (Int32.toNatClampNeg p4)) → K false A) ∧ ((gI A (gR A o 39) (Int32.toNatClampNeg p3)) = (gI A (gR A o 38) (Int32.toNatClampNeg p4)) → K true A))))) ∧ ((gI A (gR A o 38) (Int32.toNatClampNeg p4)) = 0 → K false A))) ∧ (¬ 6 ≤ p1 → K true A))) ∧ ((gI A (gR A o 38) (Int32.toNatClampNeg p3)) = 0 → K false A))) ∧ (¬ 3 ≤ p1 → kd o = 9 ∧ kd (gR A o 38) = 51 ∧ vp_in p2 (al (gR A o 38)) ∧ (((gI A (gR A o 38) (Int32.toNatClampNeg p2)) ≤ 0 → K false A) ∧ (¬ (gI A (gR A o 38) (Int32.toNatClampNeg p2)) ≤ 0 → ((p1 < 2 → K true A) ∧ (¬ p1 < 2 → kd (gR A o 39) = 51 ∧ vp_in p2 (al (gR A o 39)) ∧ ((¬ (gI A (gR A o 38) (Int32.toNatClampNeg p2)) = (gI A (gR A o 39) (Int32.toNatClampNeg p2)) → K false A) ∧ ((gI A (gR A o 38) (Int32.toNatClampNeg p2)) = (gI A (gR A o 39) (Int32.toNatClampNeg p2)) → K true A))))))))
set_option maxRecDepth 100000 in
set_option maxHeartbeats 4000000 in
theorem c_Mo_matFits (o : Nat) (p1 : Int32) (p2 : Int32) (p3 : Int32) (p4 : Int32) (A : Mem) (K : Bool → Mem → Prop) (h : wp_Mo_matFits o p1 p2 p3 p4 A K) : CtZ y_Mo_matFits prog_14_method_71_code 5 0 0 (fun E => [cr E o, .int (p1), .int (p2), .int (p3), .int (p4)]) A K := by
  refine ctZ_of "BasicMachineModel" (by decide) rfl (fun E => [(0, cr E o), (1, .int (p1)), (2, .int (p2)), (3, .int (p3)), (4, .int (p4))]) (fun E => by simp [lg_sl, cr_cat, ca_i, ca_l, ca_d]) (fun E => by simp [lv_args, cr_cat, ca_i, ca_l, ca_d]) (fun X E hX hR hN hQ => ?_)
  unfold wp_Mo_matFits at h
  refine g_iload_n (pc := 0) hX d_Mo_matFits_0 rfl 1 rfl ?_
  refine g_iconst (pc := 1) (v := 3) hX d_Mo_matFits_1 (by decide) ?_
  refine g_icmp_ge (pc := 2) (tgt := 40) hX d_Mo_matFits_2 (by decide) (fun q => ?_) (fun q => ?_)
  · have h := h.1 q
    refine g_aload_n (pc := 40) hX d_Mo_matFits_40 rfl 0 rfl ?_
    obtain ⟨f1, h⟩ := h
    refine g_getR (pc := 41) hX fl_Mo_128 rfl f1 d_Mo_matFits_41 ?_
    refine g_iload_n (pc := 44) hX d_Mo_matFits_44 rfl 3 rfl ?_
    obtain ⟨f2, h⟩ := h
    obtain ⟨f3, h⟩ := h
    refine g_iaload (pc := 45) hX f2 f3 d_Mo_matFits_45 ?_
    refine g_if_ne (pc := 46) (tgt := 51) hX d_Mo_matFits_46 (by decide) (fun q => ?_) (fun q => ?_)
    · have h := h.1 q
      refine g_iload_n (pc := 51) hX d_Mo_matFits_51 rfl 1 rfl ?_
      refine g_bipush (pc := 52) (v := 6) hX d_Mo_matFits_52 (by decide) ?_
      refine g_icmp_ge (pc := 54) (tgt := 59) hX d_Mo_matFits_54 (by decide) (fun q => ?_) (fun q => ?_)
      · have h := h.1 q
        refine g_aload_n (pc := 59) hX d_Mo_matFits_59 rfl 0 rfl ?_
        refine g_getR (pc := 60) hX fl_Mo_128 rfl f1 d_Mo_matFits_60 ?_
        refine g_iload (pc := 63) hX d_Mo_matFits_63 4 rfl ?_
        obtain ⟨f4, h⟩ := h
        refine g_iaload (pc := 65) hX f2 f4 d_Mo_matFits_65 ?_
        refine g_if_ne (pc := 66) (tgt := 71) hX d_Mo_matFits_66 (by decide) (fun q => ?_) (fun q => ?_)
        · have h := h.1 q
          refine g_iload_n (pc := 71) hX d_Mo_matFits_71 rfl 1 rfl ?_
          refine g_bipush (pc := 72) (v := 8) hX d_Mo_matFits_72 (by decide) ?_
          refine g_icmp_ne (pc := 74) (tgt := 101) hX d_Mo_matFits_74 (by decide) (fun q => ?_) (fun q => ?_)
          · have h := h.1 q
            refine g_aload_n (pc := 101) hX d_Mo_matFits_101 rfl 0 rfl ?_
            refine g_getR (pc := 102) hX fl_Mo_128 rfl f1 d_Mo_matFits_102 ?_
            refine g_iload_n (pc := 105) hX d_Mo_matFits_105 rfl 3 rfl ?_
            refine g_iaload (pc := 106) hX f2 f3 d_Mo_matFits_106 ?_
            refine g_aload_n (pc := 107) hX d_Mo_matFits_107 rfl 0 rfl ?_
            refine g_getR (pc := 108) hX fl_Mo_128 rfl f1 d_Mo_matFits_108 ?_
            refine g_iload (pc := 111) hX d_Mo_matFits_111 4 rfl ?_
            refine g_iaload (pc := 113) hX f2 f4 d_Mo_matFits_113 ?_
            refine g_icmp_ne (pc := 114) (tgt := 137) hX d_Mo_matFits_114 (by decide) (fun q => ?_) (fun q => ?_)
            · have h := h.1 q
              refine g_iconst (pc := 137) (v := 0) hX d_Mo_matFits_137 (by decide) ?_
              exact g_zret hX hQ false rfl h d_Mo_matFits_138
            · have h := h.2 q
              refine g_aload_n (pc := 117) hX d_Mo_matFits_117 rfl 0 rfl ?_
              refine g_getR (pc := 118) hX fl_Mo_131 rfl f1 d_Mo_matFits_118 ?_
              refine g_iload_n (pc := 121) hX d_Mo_matFits_121 rfl 3 rfl ?_
              obtain ⟨f5, h⟩ := h
              obtain ⟨f6, h⟩ := h
              refine g_iaload (pc := 122) hX f5 f6 d_Mo_matFits_122 ?_
              refine g_aload_n (pc := 123) hX d_Mo_matFits_123 rfl 0 rfl ?_
              refine g_getR (pc := 124) hX fl_Mo_131 rfl f1 d_Mo_matFits_124 ?_
              refine g_iload (pc := 127) hX d_Mo_matFits_127 4 rfl ?_
              obtain ⟨f7, h⟩ := h
              refine g_iaload (pc := 129) hX f5 f7 d_Mo_matFits_129 ?_
              refine g_icmp_ne (pc := 130) (tgt := 137) hX d_Mo_matFits_130 (by decide) (fun q => ?_) (fun q => ?_)
              · have h := h.1 q
                refine g_iconst (pc := 137) (v := 0) hX d_Mo_matFits_137 (by decide) ?_
                exact g_zret hX hQ false rfl h d_Mo_matFits_138
              · have h := h.2 q
                refine g_iconst (pc := 133) (v := 1) hX d_Mo_matFits_133 (by decide) ?_
                refine g_goto (pc := 134) (tgt := 138) hX d_Mo_matFits_134 (by decide) ?_
                exact g_zret hX hQ true rfl h d_Mo_matFits_138
          · have h := h.2 q
            refine g_aload_n (pc := 77) hX d_Mo_matFits_77 rfl 0 rfl ?_
            refine g_getR (pc := 78) hX fl_Mo_131 rfl f1 d_Mo_matFits_78 ?_
            refine g_iload_n (pc := 81) hX d_Mo_matFits_81 rfl 3 rfl ?_
            obtain ⟨f8, h⟩ := h
            obtain ⟨f9, h⟩ := h
            refine g_iaload (pc := 82) hX f8 f9 d_Mo_matFits_82 ?_
            refine g_aload_n (pc := 83) hX d_Mo_matFits_83 rfl 0 rfl ?_
            refine g_getR (pc := 84) hX fl_Mo_128 rfl f1 d_Mo_matFits_84 ?_
            refine g_iload (pc := 87) hX d_Mo_matFits_87 4 rfl ?_
            refine g_iaload (pc := 89) hX f2 f4 d_Mo_matFits_89 ?_
            refine g_icmp_ne (pc := 90) (tgt := 97) hX d_Mo_matFits_90 (by decide) (fun q => ?_) (fun q => ?_)
            · have h := h.1 q
              refine g_iconst (pc := 97) (v := 0) hX d_Mo_matFits_97 (by decide) ?_
              refine g_goto (pc := 98) (tgt := 138) hX d_Mo_matFits_98 (by decide) ?_
              exact g_zret hX hQ false rfl h d_Mo_matFits_138
            · have h := h.2 q
              refine g_iconst (pc := 93) (v := 1) hX d_Mo_matFits_93 (by decide) ?_
              refine g_goto (pc := 94) (tgt := 138) hX d_Mo_matFits_94 (by decide) ?_
              exact g_zret hX hQ true rfl h d_Mo_matFits_138
        · have h := h.2 q
          refine g_iconst (pc := 69) (v := 0) hX d_Mo_matFits_69 (by decide) ?_
          exact g_zret hX hQ false rfl h d_Mo_matFits_70
      · have h := h.2 q
        refine g_iconst (pc := 57) (v := 1) hX d_Mo_matFits_57 (by decide) ?_
        exact g_zret hX hQ true rfl h d_Mo_matFits_58
    · have h := h.2 q
      refine g_iconst (pc := 49) (v := 0) hX d_Mo_matFits_49 (by decide) ?_
      exact g_zret hX hQ false rfl h d_Mo_matFits_50
  · have h := h.2 q
    refine g_aload_n (pc := 5) hX d_Mo_matFits_5 rfl 0 rfl ?_
    obtain ⟨f10, h⟩ := h
    refine g_getR (pc := 6) hX fl_Mo_128 rfl f10 d_Mo_matFits_6 ?_
    refine g_iload_n (pc := 9) hX d_Mo_matFits_9 rfl 2 rfl ?_
    obtain ⟨f11, h⟩ := h
    obtain ⟨f12, h⟩ := h
    refine g_iaload (pc := 10) hX f11 f12 d_Mo_matFits_10 ?_
    refine g_if_le (pc := 11) (tgt := 38) hX d_Mo_matFits_11 (by decide) (fun q => ?_) (fun q => ?_)
    · have h := h.1 q
      refine g_iconst (pc := 38) (v := 0) hX d_Mo_matFits_38 (by decide) ?_
      exact g_zret hX hQ false rfl h d_Mo_matFits_39
    · have h := h.2 q
      refine g_iload_n (pc := 14) hX d_Mo_matFits_14 rfl 1 rfl ?_
      refine g_iconst (pc := 15) (v := 2) hX d_Mo_matFits_15 (by decide) ?_
      refine g_icmp_lt (pc := 16) (tgt := 34) hX d_Mo_matFits_16 (by decide) (fun q => ?_) (fun q => ?_)
      · have h := h.1 q
        refine g_iconst (pc := 34) (v := 1) hX d_Mo_matFits_34 (by decide) ?_
        refine g_goto (pc := 35) (tgt := 39) hX d_Mo_matFits_35 (by decide) ?_
        exact g_zret hX hQ true rfl h d_Mo_matFits_39
      · have h := h.2 q
        refine g_aload_n (pc := 19) hX d_Mo_matFits_19 rfl 0 rfl ?_
        refine g_getR (pc := 20) hX fl_Mo_128 rfl f10 d_Mo_matFits_20 ?_
        refine g_iload_n (pc := 23) hX d_Mo_matFits_23 rfl 2 rfl ?_
        refine g_iaload (pc := 24) hX f11 f12 d_Mo_matFits_24 ?_
        refine g_aload_n (pc := 25) hX d_Mo_matFits_25 rfl 0 rfl ?_
        refine g_getR (pc := 26) hX fl_Mo_131 rfl f10 d_Mo_matFits_26 ?_
        refine g_iload_n (pc := 29) hX d_Mo_matFits_29 rfl 2 rfl ?_
        obtain ⟨f13, h⟩ := h
        obtain ⟨f14, h⟩ := h
        refine g_iaload (pc := 30) hX f13 f14 d_Mo_matFits_30 ?_
        refine g_icmp_ne (pc := 31) (tgt := 38) hX d_Mo_matFits_31 (by decide) (fun q => ?_) (fun q => ?_)
        · have h := h.1 q
          refine g_iconst (pc := 38) (v := 0) hX d_Mo_matFits_38 (by decide) ?_
          exact g_zret hX hQ false rfl h d_Mo_matFits_39
        · have h := h.2 q
          refine g_iconst (pc := 34) (v := 1) hX d_Mo_matFits_34 (by decide) ?_
          refine g_goto (pc := 35) (tgt := 39) hX d_Mo_matFits_35 (by decide) ?_
          exact g_zret hX hQ true rfl h d_Mo_matFits_39
def wp_Mo_doMat_c252 (K : Mem → Prop) : Nat → Nat → Int32 → Int32 → Mem → Prop
  | 0, _, _, _, _ => False
  | n + 1, x0, x2, x10, A => ((36 ≤ x10 → K A) ∧ (¬ 36 ≤ x10 → kd x0 = 9 ∧ kd (gR A x0 36) = 53 ∧ vp_in x10 (al (gR A x0 36)) ∧ kd (gR A x0 35) = 53 ∧ vp_in ((x2 * 36) + x10) (al (gR A x0 35)) ∧ wp_Mo_doMat_c252 K n x0 x2 (x10 + 1) (sD A (gR A x0 35) (Int32.toNatClampNeg ((x2 * 36) + x10)) (gD A (gR A x0 36) (Int32.toNatClampNeg x10)))))
def wp_Mo_doMat_c171 (J161 : Nat → Int32 → Int32 → Int32 → Int32 → UInt64 → Int32 → Int32 → Int32 → Mem → Prop) (K : Mem → Prop) : Nat → Nat → Int32 → Int32 → Int32 → Int32 → UInt64 → Int32 → Int32 → Int32 → Int32 → Mem → Prop
  | 0, _, _, _, _, _, _, _, _, _, _, _ => False
  | n + 1, x0, x2, x3, x4, x5, x6, x8, x9, x10, x11, A => ((x9 ≤ x11 → J161 x0 x2 x3 x4 x5 x6 x8 x9 (x10 + 1) A) ∧ (¬ x9 ≤ x11 → kd x0 = 9 ∧ ((¬ (gI A x0 27) = 0 → J161 x0 x2 x3 x4 x5 x6 x8 x9 (x10 + 1) A) ∧ ((gI A x0 27) = 0 → wp_Mo_matCell x0 x3 x4 x5 x10 x11 x6 A (fun (r41 : UInt64) (A40 : Mem) => kd (gR A x0 36) = 53 ∧ vp_in ((x10 * 6) + x11) (al (gR A x0 36)) ∧ wp_Mo_doMat_c171 J161 K n x0 x2 x3 x4 x5 x6 x8 x9 x10 (x11 + 1) (sD A40 (gR A x0 36) (Int32.toNatClampNeg ((x10 * 6) + x11)) r41))))))
def wp_Mo_doMat_c161 (K : Mem → Prop) : Nat → Nat → Int32 → Int32 → Int32 → Int32 → UInt64 → Int32 → Int32 → Int32 → Mem → Prop
  | 0, _, _, _, _, _, _, _, _, _, _ => False
  | n + 1, x0, x2, x3, x4, x5, x6, x8, x9, x10, A => ((x8 ≤ x10 → kd x0 = 9 ∧ (((gI A x0 27) = 0 → kd (gR A x0 38) = 51 ∧ vp_in x2 (al (gR A x0 38)) ∧ kd (gR (sI A (gR A x0 38) (Int32.toNatClampNeg x2) x8) x0 39) = 51 ∧ vp_in x2 (al (gR (sI A (gR A x0 38) (Int32.toNatClampNeg x2) x8) x0 39)) ∧ ∀ A33 : Mem, A33 = (sI (sI A (gR A x0 38) (Int32.toNatClampNeg x2) x8) (gR (sI A (gR A x0 38) (Int32.toNatClampNeg x2) x8) x0 39) (Int32.toNatClampNeg x2) x9) → (∃ n9 : Nat, wp_Mo_doMat_c252 K n9 x0 x2 0 A33)) ∧ (¬ (gI A x0 27) = 0 → K A))) ∧ (¬ x8 ≤ x10 → (∃ n9 : Nat, wp_Mo_doMat_c171 (wp_Mo_doMat_c161 K n) K n9 x0 x2 x3 x4 x5 x6 x8 x9 x10 0 A)))
def wp_Mo_doMat_c132 (K : Mem → Prop) (x0 : Nat) (x2 : Int32) (x3 : Int32) (x4 : Int32) (x5 : Int32) (x6 : UInt64) (s0 : Int32) (A : Mem) : Prop := ((¬ x3 = 3 → kd x0 = 9 ∧ kd (gR A x0 39) = 51 ∧ vp_in x5 (al (gR A x0 39)) ∧ (∃ n9 : Nat, wp_Mo_doMat_c161 K n9 x0 x2 x3 x4 x5 x6 s0 (gI A (gR A x0 39) (Int32.toNatClampNeg x5)) 0 A)) ∧ (x3 = 3 → kd x0 = 9 ∧ kd (gR A x0 38) = 51 ∧ vp_in x4 (al (gR A x0 38)) ∧ (∃ n9 : Nat, wp_Mo_doMat_c161 K n9 x0 x2 x3 x4 x5 x6 s0 (gI A (gR A x0 38) (Int32.toNatClampNeg x4)) 0 A)))
def wp_Mo_doMat_c108 (K : Mem → Prop) (x0 : Nat) (x2 : Int32) (x3 : Int32) (x4 : Int32) (x5 : Int32) (s0 : UInt64) (A : Mem) : Prop := ((¬ x3 = 3 → kd x0 = 9 ∧ kd (gR A x0 38) = 51 ∧ vp_in x4 (al (gR A x0 38)) ∧ wp_Mo_doMat_c132 K x0 x2 x3 x4 x5 s0 (gI A (gR A x0 38) (Int32.toNatClampNeg x4)) A) ∧ (x3 = 3 → kd x0 = 9 ∧ kd (gR A x0 39) = 51 ∧ vp_in x4 (al (gR A x0 39)) ∧ wp_Mo_doMat_c132 K x0 x2 x3 x4 x5 s0 (gI A (gR A x0 39) (Int32.toNatClampNeg x4)) A))
def wp_Mo_doMat_c65 (K : Mem → Prop) (x0 : Nat) (x1 : Int32) (x2 : Int32) (x3 : Int32) (x4 : Int32) (s0 : Int32) (A : Mem) : Prop := kd x0 = 9 ∧ wp_Mo_matFits x0 x3 x2 x4 s0 A (fun (r10 : Bool) (A9 : Mem) => ((r10 = true → ((¬ x3 = 4 → wp_Mo_doMat_c108 K x0 x2 x3 x4 s0 FP.dconst1 A9) ∧ (x3 = 4 → kd (gR A9 x0 13) = 51 ∧ vp_in (x1 * 4) (al (gR A9 x0 13)) ∧ wp_Mo_work x0 (gI A9 (gR A9 x0 13) (Int32.toNatClampNeg (x1 * 4))) A9 (fun (r15 : UInt64) (A14 : Mem) => wp_Mo_doMat_c108 K x0 x2 x3 x4 s0 r15 A14)))) ∧ (r10 = false → K (sI A9 x0 27 6))))
def wp_Mo_doMat_c42 (K : Mem → Prop) (x0 : Nat) (x1 : Int32) (x2 : Int32) (x3 : Int32) (s0 : Int32) (A : Mem) : Prop := ((x3 ≤ 5 → wp_Mo_doMat_c65 K x0 x1 x2 x3 s0 s0 A) ∧ (¬ x3 ≤ 5 → kd x0 = 9 ∧ kd (gR A x0 12) = 51 ∧ vp_in ((x1 * 8) + 3) (al (gR A x0 12)) ∧ wp_Mo_doMat_c65 K x0 x1 x2 x3 s0 (gI A (gR A x0 12) (Int32.toNatClampNeg ((x1 * 8) + 3))) A))
def wp_Mo_doMat (o : Nat) (p1 : Int32) (A : Mem) (K : Mem → Prop) : Prop := kd o = 9 ∧ kd (gR A o 12) = 51 ∧ vp_in (p1 * 8) (al (gR A o 12)) ∧ vp_in ((p1 * 8) + 1) (al (gR A o 12)) ∧ ((3 ≤ (gI A (gR A o 12) (Int32.toNatClampNeg ((p1 * 8) + 1))) → vp_in ((p1 * 8) + 2) (al (gR A o 12)) ∧ wp_Mo_doMat_c42 K o p1 (gI A (gR A o 12) (Int32.toNatClampNeg (p1 * 8))) (gI A (gR A o 12) (Int32.toNatClampNeg ((p1 * 8) + 1))) (gI A (gR A o 12) (Int32.toNatClampNeg ((p1 * 8) + 2))) A) ∧ (¬ 3 ≤ (gI A (gR A o 12) (Int32.toNatClampNeg ((p1 * 8) + 1))) → wp_Mo_doMat_c42 K o p1 (gI A (gR A o 12) (Int32.toNatClampNeg (p1 * 8))) (gI A (gR A o 12) (Int32.toNatClampNeg ((p1 * 8) + 1))) (gI A (gR A o 12) (Int32.toNatClampNeg (p1 * 8))) A))
set_option maxRecDepth 100000 in
set_option maxHeartbeats 4000000 in
theorem k_Mo_doMat_c252 {X : CXT} {E : EVT} {K : Mem → Prop} (hX : Gd X E "BasicMachineModel" prog_14_method_72_code) (hR : Rm X 6 145) (hN : xnL X = 12) (hQ : QV X E K) : ∀ (n : Nat) (x0 : Nat) (x2 : Int32) (x10 : Int32) (A : Mem), wp_Mo_doMat_c252 K n x0 x2 x10 A → G X E A 252 [(0, cr E x0), (2, .int (x2)), (10, .int (x10))] [] := by
  intro n
  induction n with
  | zero => intro x0 x2 x10 A h; exact h.elim
  | succ n ih =>
    intro x0 x2 x10 A h
    rw [wp_Mo_doMat_c252] at h
    refine g_iload (pc := 252) hX d_Mo_doMat_252 2 rfl ?_
    refine g_bipush (pc := 254) (v := 36) hX d_Mo_doMat_254 (by decide) ?_
    refine g_icmp_ge (pc := 256) (tgt := 284) hX d_Mo_doMat_256 (by decide) (fun q => ?_) (fun q => ?_)
    · have h := h.1 q
      exact g_vret hX hQ h d_Mo_doMat_284
    · have h := h.2 q
      refine g_aload_n (pc := 259) hX d_Mo_doMat_259 rfl 0 rfl ?_
      obtain ⟨f34, h⟩ := h
      refine g_getR (pc := 260) hX fl_Mo_119 rfl f34 d_Mo_doMat_260 ?_
      refine g_iload_n (pc := 263) hX d_Mo_doMat_263 rfl 1 rfl ?_
      refine g_bipush (pc := 264) (v := 36) hX d_Mo_doMat_264 (by decide) ?_
      refine g_imul (pc := 266) hX d_Mo_doMat_266 ?_
      refine g_iload (pc := 267) hX d_Mo_doMat_267 2 rfl ?_
      refine g_iadd (pc := 269) hX d_Mo_doMat_269 ?_
      refine g_aload_n (pc := 270) hX d_Mo_doMat_270 rfl 0 rfl ?_
      refine g_getR (pc := 271) hX fl_Mo_122 rfl f34 d_Mo_doMat_271 ?_
      refine g_iload (pc := 274) hX d_Mo_doMat_274 2 rfl ?_
      obtain ⟨f35, h⟩ := h
      obtain ⟨f36, h⟩ := h
      refine g_daload (pc := 276) hX f35 f36 d_Mo_doMat_276 ?_
      obtain ⟨f37, h⟩ := h
      obtain ⟨f38, h⟩ := h
      refine g_dastore (pc := 277) hX f37 f38 d_Mo_doMat_277 ?_
      refine g_iinc (pc := 278) (v := (x10 + 1)) (lv0 := [(0, cr E x0), (2, .int (x2))]) hX d_Mo_doMat_278 2 rfl rfl (by rw [hN]; decide) (g_st1 (ks := [0, 1]) rfl rfl) ?_
      refine g_goto (pc := 281) (tgt := 252) hX d_Mo_doMat_281 (by decide) ?_
      refine g_sub [1, 2, 0] rfl ?_
      exact ih _ _ _ _ h
set_option maxRecDepth 100000 in
set_option maxHeartbeats 4000000 in
theorem k_Mo_doMat_c171 {X : CXT} {E : EVT} {K : Mem → Prop} {J161 : Nat → Int32 → Int32 → Int32 → Int32 → UInt64 → Int32 → Int32 → Int32 → Mem → Prop} (hX : Gd X E "BasicMachineModel" prog_14_method_72_code) (hR : Rm X 6 145) (hN : xnL X = 12) (hQ : QV X E K) (hJ161 : ∀ (x0 : Nat) (x2 : Int32) (x3 : Int32) (x4 : Int32) (x5 : Int32) (x6 : UInt64) (x8 : Int32) (x9 : Int32) (x10 : Int32) (A : Mem), J161 x0 x2 x3 x4 x5 x6 x8 x9 x10 A → G X E A 161 [(0, cr E x0), (2, .int (x2)), (3, .int (x3)), (4, .int (x4)), (5, .int (x5)), (6, .double (x6)), (8, .int (x8)), (9, .int (x9)), (10, .int (x10))] []) : ∀ (n : Nat) (x0 : Nat) (x2 : Int32) (x3 : Int32) (x4 : Int32) (x5 : Int32) (x6 : UInt64) (x8 : Int32) (x9 : Int32) (x10 : Int32) (x11 : Int32) (A : Mem), wp_Mo_doMat_c171 J161 K n x0 x2 x3 x4 x5 x6 x8 x9 x10 x11 A → G X E A 171 [(0, cr E x0), (2, .int (x2)), (3, .int (x3)), (4, .int (x4)), (5, .int (x5)), (6, .double (x6)), (8, .int (x8)), (9, .int (x9)), (10, .int (x10)), (11, .int (x11))] [] := by
  intro n
  induction n with
  | zero => intro x0 x2 x3 x4 x5 x6 x8 x9 x10 x11 A h; exact h.elim
  | succ n ih =>
    intro x0 x2 x3 x4 x5 x6 x8 x9 x10 x11 A h
    rw [wp_Mo_doMat_c171] at h
    refine g_iload (pc := 171) hX d_Mo_doMat_171 9 rfl ?_
    refine g_iload (pc := 173) hX d_Mo_doMat_173 7 rfl ?_
    refine g_icmp_ge (pc := 175) (tgt := 219) hX d_Mo_doMat_175 (by decide) (fun q => ?_) (fun q => ?_)
    · have h := h.1 q
      refine g_iinc (pc := 219) (v := (x10 + 1)) (lv0 := [(9, .int (x9)), (0, cr E x0), (2, .int (x2)), (3, .int (x3)), (4, .int (x4)), (5, .int (x5)), (6, .double (x6)), (8, .int (x8)), (11, .int (x11))]) hX d_Mo_doMat_219 8 rfl rfl (by rw [hN]; decide) (g_st1b (ks := [7, 0, 1, 2, 3, 4, 5, 6, 9]) rfl rfl rfl rfl) ?_
      refine g_goto (pc := 222) (tgt := 161) hX d_Mo_doMat_222 (by decide) ?_
      refine g_sub [2, 3, 4, 5, 6, 7, 8, 1, 0] rfl ?_
      exact hJ161 _ _ _ _ _ _ _ _ _ _ h
    · have h := h.2 q
      refine g_aload_n (pc := 178) hX d_Mo_doMat_178 rfl 0 rfl ?_
      obtain ⟨f39, h⟩ := h
      refine g_getI (pc := 179) hX fl_Mo_94 rfl f39 d_Mo_doMat_179 ?_
      refine g_if_ne (pc := 182) (tgt := 219) hX d_Mo_doMat_182 (by decide) (fun q => ?_) (fun q => ?_)
      · have h := h.1 q
        refine g_iinc (pc := 219) (v := (x10 + 1)) (lv0 := [(9, .int (x9)), (0, cr E x0), (2, .int (x2)), (3, .int (x3)), (4, .int (x4)), (5, .int (x5)), (6, .double (x6)), (8, .int (x8)), (11, .int (x11))]) hX d_Mo_doMat_219 8 rfl rfl (by rw [hN]; decide) (g_st1b (ks := [7, 0, 1, 2, 3, 4, 5, 6, 9]) rfl rfl rfl rfl) ?_
        refine g_goto (pc := 222) (tgt := 161) hX d_Mo_doMat_222 (by decide) ?_
        refine g_sub [2, 3, 4, 5, 6, 7, 8, 1, 0] rfl ?_
        exact hJ161 _ _ _ _ _ _ _ _ _ _ h
      · have h := h.2 q
        refine g_aload_n (pc := 185) hX d_Mo_doMat_185 rfl 0 rfl ?_
        refine g_getR (pc := 186) hX fl_Mo_122 rfl f39 d_Mo_doMat_186 ?_
        refine g_iload (pc := 189) hX d_Mo_doMat_189 8 rfl ?_
        refine g_bipush (pc := 191) (v := 6) hX d_Mo_doMat_191 (by decide) ?_
        refine g_imul (pc := 193) hX d_Mo_doMat_193 ?_
        refine g_iload (pc := 194) hX d_Mo_doMat_194 9 rfl ?_
        refine g_iadd (pc := 196) hX d_Mo_doMat_196 ?_
        refine g_aload_n (pc := 197) hX d_Mo_doMat_197 rfl 0 rfl ?_
        refine g_iload_n (pc := 198) hX d_Mo_doMat_198 rfl 2 rfl ?_
        refine g_iload (pc := 199) hX d_Mo_doMat_199 3 rfl ?_
        refine g_iload (pc := 201) hX d_Mo_doMat_201 4 rfl ?_
        refine g_iload (pc := 203) hX d_Mo_doMat_203 8 rfl ?_
        refine g_iload (pc := 205) hX d_Mo_doMat_205 9 rfl ?_
        refine g_dload (pc := 207) hX d_Mo_doMat_207 5 rfl ?_
        refine g_callV_D (pc := 209) hX hR f39 cf9 rfl lk_Mo_409 mf_Mo_matCell (c_Mo_matCell _ _ _ _ _ _ _ _ _ h) rfl rfl rfl ⟨by decide, by decide⟩ (cat_sum _ (Nat.le_of_ble_eq_true rfl)) d_Mo_doMat_209 (fun r41 A40 h => ?_)
        obtain ⟨f42, h⟩ := h
        obtain ⟨f43, h⟩ := h
        refine g_dastore (pc := 212) hX f42 f43 d_Mo_doMat_212 ?_
        refine g_iinc (pc := 213) (v := (x11 + 1)) (lv0 := [(10, .int (x10)), (0, cr E x0), (2, .int (x2)), (3, .int (x3)), (4, .int (x4)), (5, .int (x5)), (6, .double (x6)), (8, .int (x8)), (9, .int (x9))]) hX d_Mo_doMat_213 9 rfl rfl (by rw [hN]; decide) (g_st1b (ks := [8, 0, 1, 2, 3, 4, 5, 6, 7]) rfl rfl rfl rfl) ?_
        refine g_goto (pc := 216) (tgt := 171) hX d_Mo_doMat_216 (by decide) ?_
        refine g_sub [2, 3, 4, 5, 6, 7, 8, 9, 1, 0] rfl ?_
        exact ih _ _ _ _ _ _ _ _ _ _ _ h
set_option maxRecDepth 100000 in
set_option maxHeartbeats 4000000 in
theorem k_Mo_doMat_c161 {X : CXT} {E : EVT} {K : Mem → Prop} (hX : Gd X E "BasicMachineModel" prog_14_method_72_code) (hR : Rm X 6 145) (hN : xnL X = 12) (hQ : QV X E K) : ∀ (n : Nat) (x0 : Nat) (x2 : Int32) (x3 : Int32) (x4 : Int32) (x5 : Int32) (x6 : UInt64) (x8 : Int32) (x9 : Int32) (x10 : Int32) (A : Mem), wp_Mo_doMat_c161 K n x0 x2 x3 x4 x5 x6 x8 x9 x10 A → G X E A 161 [(0, cr E x0), (2, .int (x2)), (3, .int (x3)), (4, .int (x4)), (5, .int (x5)), (6, .double (x6)), (8, .int (x8)), (9, .int (x9)), (10, .int (x10))] [] := by
  intro n
  induction n with
  | zero => intro x0 x2 x3 x4 x5 x6 x8 x9 x10 A h; exact h.elim
  | succ n ih =>
    intro x0 x2 x3 x4 x5 x6 x8 x9 x10 A h
    rw [wp_Mo_doMat_c161] at h
    refine g_iload (pc := 161) hX d_Mo_doMat_161 8 rfl ?_
    refine g_iload (pc := 163) hX d_Mo_doMat_163 6 rfl ?_
    refine g_icmp_ge (pc := 165) (tgt := 225) hX d_Mo_doMat_165 (by decide) (fun q => ?_) (fun q => ?_)
    · have h := h.1 q
      refine g_aload_n (pc := 225) hX d_Mo_doMat_225 rfl 0 rfl ?_
      obtain ⟨f28, h⟩ := h
      refine g_getI (pc := 226) hX fl_Mo_94 rfl f28 d_Mo_doMat_226 ?_
      refine g_if_eq (pc := 229) (tgt := 233) hX d_Mo_doMat_229 (by decide) (fun q => ?_) (fun q => ?_)
      · have h := h.1 q
        refine g_aload_n (pc := 233) hX d_Mo_doMat_233 rfl 0 rfl ?_
        refine g_getR (pc := 234) hX fl_Mo_128 rfl f28 d_Mo_doMat_234 ?_
        refine g_iload_n (pc := 237) hX d_Mo_doMat_237 rfl 1 rfl ?_
        refine g_iload (pc := 238) hX d_Mo_doMat_238 6 rfl ?_
        obtain ⟨f29, h⟩ := h
        obtain ⟨f30, h⟩ := h
        refine g_iastore (pc := 240) hX f29 f30 d_Mo_doMat_240 ?_
        refine g_aload_n (pc := 241) hX d_Mo_doMat_241 rfl 0 rfl ?_
        refine g_getR (pc := 242) hX fl_Mo_131 rfl f28 d_Mo_doMat_242 ?_
        refine g_iload_n (pc := 245) hX d_Mo_doMat_245 rfl 1 rfl ?_
        refine g_iload (pc := 246) hX d_Mo_doMat_246 7 rfl ?_
        obtain ⟨f31, h⟩ := h
        obtain ⟨f32, h⟩ := h
        refine g_iastore (pc := 248) hX f31 f32 d_Mo_doMat_248 ?_
        refine g_nm (fun A33 eA33 => ?_)
        have h := h A33 eA33
        refine g_iconst (pc := 249) (v := 0) hX d_Mo_doMat_249 (by decide) ?_
        refine g_istore (pc := 250) (lv0 := [(9, .int (x9)), (0, cr E x0), (2, .int (x2)), (3, .int (x3)), (4, .int (x4)), (5, .int (x5)), (6, .double (x6)), (8, .int (x8))]) hX d_Mo_doMat_250 (by rw [hN]; decide) (g_st1b (ks := [7, 0, 1, 2, 3, 4, 5, 6]) rfl rfl rfl rfl) ?_
        refine g_sub [2, 3, 0] rfl ?_
        obtain ⟨n9, h⟩ := h
        exact k_Mo_doMat_c252 hX hR hN hQ n9 _ _ _ _ h
      · have h := h.2 q
        exact g_vret hX hQ h d_Mo_doMat_232
    · have h := h.2 q
      refine g_iconst (pc := 168) (v := 0) hX d_Mo_doMat_168 (by decide) ?_
      refine g_istore (pc := 169) (lv0 := [(10, .int (x10)), (0, cr E x0), (2, .int (x2)), (3, .int (x3)), (4, .int (x4)), (5, .int (x5)), (6, .double (x6)), (8, .int (x8)), (9, .int (x9))]) hX d_Mo_doMat_169 (by rw [hN]; decide) (g_st1b (ks := [8, 0, 1, 2, 3, 4, 5, 6, 7]) rfl rfl rfl rfl) ?_
      refine g_sub [2, 3, 4, 5, 6, 7, 8, 9, 1, 0] rfl ?_
      obtain ⟨n9, h⟩ := h
      exact k_Mo_doMat_c171 hX hR hN hQ ih n9 _ _ _ _ _ _ _ _ _ _ _ h
set_option maxRecDepth 100000 in
set_option maxHeartbeats 4000000 in
theorem k_Mo_doMat_c132 {X : CXT} {E : EVT} {K : Mem → Prop} (hX : Gd X E "BasicMachineModel" prog_14_method_72_code) (hR : Rm X 6 145) (hN : xnL X = 12) (hQ : QV X E K) (x0 : Nat) (x2 : Int32) (x3 : Int32) (x4 : Int32) (x5 : Int32) (x6 : UInt64) (s0 : Int32) (A : Mem) (h : wp_Mo_doMat_c132 K x0 x2 x3 x4 x5 x6 s0 A) : G X E A 132 [(0, cr E x0), (2, .int (x2)), (3, .int (x3)), (4, .int (x4)), (5, .int (x5)), (6, .double (x6))] [.int (s0)] := by
  unfold wp_Mo_doMat_c132 at h
  refine g_istore (pc := 132) (lv0 := [(0, cr E x0), (2, .int (x2)), (3, .int (x3)), (4, .int (x4)), (5, .int (x5)), (6, .double (x6))]) hX d_Mo_doMat_132 (by rw [hN]; decide) (g_st1 (ks := [0, 1, 2, 3, 4, 5]) rfl rfl) ?_
  refine g_iload_n (pc := 134) hX d_Mo_doMat_134 rfl 3 rfl ?_
  refine g_iconst (pc := 135) (v := 3) hX d_Mo_doMat_135 (by decide) ?_
  refine g_icmp_ne (pc := 136) (tgt := 149) hX d_Mo_doMat_136 (by decide) (fun q => ?_) (fun q => ?_)
  · have h := h.1 q
    refine g_aload_n (pc := 149) hX d_Mo_doMat_149 rfl 1 rfl ?_
    obtain ⟨f22, h⟩ := h
    refine g_getR (pc := 150) hX fl_Mo_131 rfl f22 d_Mo_doMat_150 ?_
    refine g_iload (pc := 153) hX d_Mo_doMat_153 5 rfl ?_
    obtain ⟨f23, h⟩ := h
    obtain ⟨f24, h⟩ := h
    refine g_iaload (pc := 155) hX f23 f24 d_Mo_doMat_155 ?_
    refine g_istore (pc := 156) (lv0 := [(8, .int (s0)), (0, cr E x0), (2, .int (x2)), (3, .int (x3)), (4, .int (x4)), (5, .int (x5)), (6, .double (x6))]) hX d_Mo_doMat_156 (by rw [hN]; decide) (g_st1b (ks := [0, 1, 2, 3, 4, 5, 6]) rfl rfl rfl rfl) ?_
    refine g_iconst (pc := 158) (v := 0) hX d_Mo_doMat_158 (by decide) ?_
    refine g_istore (pc := 159) (lv0 := [(9, .int ((gI A (gR A x0 39) (Int32.toNatClampNeg x5)))), (8, .int (s0)), (0, cr E x0), (2, .int (x2)), (3, .int (x3)), (4, .int (x4)), (5, .int (x5)), (6, .double (x6))]) hX d_Mo_doMat_159 (by rw [hN]; decide) (g_st1b (ks := [0, 1, 2, 3, 4, 5, 6, 7]) rfl rfl rfl rfl) ?_
    refine g_sub [3, 4, 5, 6, 7, 8, 2, 1, 0] rfl ?_
    obtain ⟨n9, h⟩ := h
    exact k_Mo_doMat_c161 hX hR hN hQ n9 _ _ _ _ _ _ _ _ _ _ h
  · have h := h.2 q
    refine g_aload_n (pc := 139) hX d_Mo_doMat_139 rfl 1 rfl ?_
    obtain ⟨f25, h⟩ := h
    refine g_getR (pc := 140) hX fl_Mo_128 rfl f25 d_Mo_doMat_140 ?_
    refine g_iload (pc := 143) hX d_Mo_doMat_143 4 rfl ?_
    obtain ⟨f26, h⟩ := h
    obtain ⟨f27, h⟩ := h
    refine g_iaload (pc := 145) hX f26 f27 d_Mo_doMat_145 ?_
    refine g_goto (pc := 146) (tgt := 156) hX d_Mo_doMat_146 (by decide) ?_
    refine g_istore (pc := 156) (lv0 := [(8, .int (s0)), (0, cr E x0), (2, .int (x2)), (3, .int (x3)), (4, .int (x4)), (5, .int (x5)), (6, .double (x6))]) hX d_Mo_doMat_156 (by rw [hN]; decide) (g_st1b (ks := [0, 1, 2, 3, 4, 5, 6]) rfl rfl rfl rfl) ?_
    refine g_iconst (pc := 158) (v := 0) hX d_Mo_doMat_158 (by decide) ?_
    refine g_istore (pc := 159) (lv0 := [(9, .int ((gI A (gR A x0 38) (Int32.toNatClampNeg x4)))), (8, .int (s0)), (0, cr E x0), (2, .int (x2)), (3, .int (x3)), (4, .int (x4)), (5, .int (x5)), (6, .double (x6))]) hX d_Mo_doMat_159 (by rw [hN]; decide) (g_st1b (ks := [0, 1, 2, 3, 4, 5, 6, 7]) rfl rfl rfl rfl) ?_
    refine g_sub [3, 4, 5, 6, 7, 8, 2, 1, 0] rfl ?_
    obtain ⟨n9, h⟩ := h
    exact k_Mo_doMat_c161 hX hR hN hQ n9 _ _ _ _ _ _ _ _ _ _ h
set_option maxRecDepth 100000 in
set_option maxHeartbeats 4000000 in
theorem k_Mo_doMat_c108 {X : CXT} {E : EVT} {K : Mem → Prop} (hX : Gd X E "BasicMachineModel" prog_14_method_72_code) (hR : Rm X 6 145) (hN : xnL X = 12) (hQ : QV X E K) (x0 : Nat) (x2 : Int32) (x3 : Int32) (x4 : Int32) (x5 : Int32) (s0 : UInt64) (A : Mem) (h : wp_Mo_doMat_c108 K x0 x2 x3 x4 x5 s0 A) : G X E A 108 [(0, cr E x0), (2, .int (x2)), (3, .int (x3)), (4, .int (x4)), (5, .int (x5))] [.double (s0)] := by
  unfold wp_Mo_doMat_c108 at h
  refine g_dstore (pc := 108) (lv0 := [(5, .int (x5)), (0, cr E x0), (2, .int (x2)), (3, .int (x3)), (4, .int (x4))]) hX d_Mo_doMat_108 (by rw [hN]; decide) (g_st2b (ks := [4, 0, 1, 2, 3]) rfl rfl rfl rfl rfl) ?_
  refine g_iload_n (pc := 110) hX d_Mo_doMat_110 rfl 4 rfl ?_
  refine g_iconst (pc := 111) (v := 3) hX d_Mo_doMat_111 (by decide) ?_
  refine g_icmp_ne (pc := 112) (tgt := 125) hX d_Mo_doMat_112 (by decide) (fun q => ?_) (fun q => ?_)
  · have h := h.1 q
    refine g_aload_n (pc := 125) hX d_Mo_doMat_125 rfl 2 rfl ?_
    obtain ⟨f16, h⟩ := h
    refine g_getR (pc := 126) hX fl_Mo_128 rfl f16 d_Mo_doMat_126 ?_
    refine g_iload (pc := 129) hX d_Mo_doMat_129 5 rfl ?_
    obtain ⟨f17, h⟩ := h
    obtain ⟨f18, h⟩ := h
    refine g_iaload (pc := 131) hX f17 f18 d_Mo_doMat_131 ?_
    refine g_sub [2, 3, 4, 5, 1, 0] rfl ?_
    exact k_Mo_doMat_c132 hX hR hN hQ _ _ _ _ _ _ _ _ h
  · have h := h.2 q
    refine g_aload_n (pc := 115) hX d_Mo_doMat_115 rfl 2 rfl ?_
    obtain ⟨f19, h⟩ := h
    refine g_getR (pc := 116) hX fl_Mo_131 rfl f19 d_Mo_doMat_116 ?_
    refine g_iload (pc := 119) hX d_Mo_doMat_119 5 rfl ?_
    obtain ⟨f20, h⟩ := h
    obtain ⟨f21, h⟩ := h
    refine g_iaload (pc := 121) hX f20 f21 d_Mo_doMat_121 ?_
    refine g_goto (pc := 122) (tgt := 132) hX d_Mo_doMat_122 (by decide) ?_
    refine g_sub [2, 3, 4, 5, 1, 0] rfl ?_
    exact k_Mo_doMat_c132 hX hR hN hQ _ _ _ _ _ _ _ _ h
set_option maxRecDepth 100000 in
set_option maxHeartbeats 4000000 in
theorem k_Mo_doMat_c65 {X : CXT} {E : EVT} {K : Mem → Prop} (hX : Gd X E "BasicMachineModel" prog_14_method_72_code) (hR : Rm X 6 145) (hN : xnL X = 12) (hQ : QV X E K) (x0 : Nat) (x1 : Int32) (x2 : Int32) (x3 : Int32) (x4 : Int32) (s0 : Int32) (A : Mem) (h : wp_Mo_doMat_c65 K x0 x1 x2 x3 x4 s0 A) : G X E A 65 [(0, cr E x0), (1, .int (x1)), (2, .int (x2)), (3, .int (x3)), (4, .int (x4))] [.int (s0)] := by
  unfold wp_Mo_doMat_c65 at h
  refine g_istore (pc := 65) (lv0 := [(4, .int (x4)), (0, cr E x0), (1, .int (x1)), (2, .int (x2)), (3, .int (x3))]) hX d_Mo_doMat_65 (by rw [hN]; decide) (g_st1b (ks := [4, 0, 1, 2, 3]) rfl rfl rfl rfl) ?_
  refine g_aload_n (pc := 67) hX d_Mo_doMat_67 rfl 2 rfl ?_
  refine g_iload_n (pc := 68) hX d_Mo_doMat_68 rfl 5 rfl ?_
  refine g_iload_n (pc := 69) hX d_Mo_doMat_69 rfl 4 rfl ?_
  refine g_iload (pc := 70) hX d_Mo_doMat_70 1 rfl ?_
  refine g_iload (pc := 72) hX d_Mo_doMat_72 0 rfl ?_
  obtain ⟨f11, h⟩ := h
  refine g_callV_Z (pc := 74) hX hR f11 cf9 rfl lk_Mo_405 mf_Mo_matFits (c_Mo_matFits _ _ _ _ _ _ _ h) rfl rfl rfl ⟨by decide, by decide⟩ (cat_sum _ (Nat.le_of_ble_eq_true rfl)) d_Mo_doMat_74 (fun r10 A9 h => ?_)
  refine g_ifB_ne (pc := 77) (tgt := 87) hX d_Mo_doMat_77 (by decide) (fun q => ?_) (fun q => ?_)
  · have h := h.1 q
    refine g_iload_n (pc := 87) hX d_Mo_doMat_87 rfl 5 rfl ?_
    refine g_iconst (pc := 88) (v := 4) hX d_Mo_doMat_88 (by decide) ?_
    refine g_icmp_ne (pc := 89) (tgt := 107) hX d_Mo_doMat_89 (by decide) (fun q => ?_) (fun q => ?_)
    · have h := h.1 q
      refine g_dconst1 (pc := 107) hX d_Mo_doMat_107 ?_
      refine g_sub [2, 4, 5, 1, 0] rfl ?_
      exact k_Mo_doMat_c108 hX hR hN hQ _ _ _ _ _ _ _ h
    · have h := h.2 q
      refine g_aload_n (pc := 92) hX d_Mo_doMat_92 rfl 2 rfl ?_
      refine g_aload_n (pc := 93) hX d_Mo_doMat_93 rfl 2 rfl ?_
      refine g_getR (pc := 94) hX fl_Mo_52 rfl f11 d_Mo_doMat_94 ?_
      refine g_iload_n (pc := 97) hX d_Mo_doMat_97 rfl 3 rfl ?_
      refine g_iconst (pc := 98) (v := 4) hX d_Mo_doMat_98 (by decide) ?_
      refine g_imul (pc := 99) hX d_Mo_doMat_99 ?_
      obtain ⟨f12, h⟩ := h
      obtain ⟨f13, h⟩ := h
      refine g_iaload (pc := 100) hX f12 f13 d_Mo_doMat_100 ?_
      refine g_callV_D (pc := 101) hX hR f11 cf9 rfl lk_Mo_392 mf_Mo_work (c_Mo_work _ _ _ _ h) rfl rfl rfl ⟨by decide, by decide⟩ (cat_sum _ (Nat.le_of_ble_eq_true rfl)) d_Mo_doMat_101 (fun r15 A14 h => ?_)
      refine g_goto (pc := 104) (tgt := 108) hX d_Mo_doMat_104 (by decide) ?_
      refine g_sub [2, 4, 5, 1, 0] rfl ?_
      exact k_Mo_doMat_c108 hX hR hN hQ _ _ _ _ _ _ _ h
  · have h := h.2 q
    refine g_aload_n (pc := 80) hX d_Mo_doMat_80 rfl 2 rfl ?_
    refine g_bipush (pc := 81) (v := 6) hX d_Mo_doMat_81 (by decide) ?_
    refine g_putI (pc := 83) hX fl_Mo_94 rfl rfl rfl f11 d_Mo_doMat_83 ?_
    exact g_vret hX hQ h d_Mo_doMat_86
set_option maxRecDepth 100000 in
set_option maxHeartbeats 4000000 in
theorem k_Mo_doMat_c42 {X : CXT} {E : EVT} {K : Mem → Prop} (hX : Gd X E "BasicMachineModel" prog_14_method_72_code) (hR : Rm X 6 145) (hN : xnL X = 12) (hQ : QV X E K) (x0 : Nat) (x1 : Int32) (x2 : Int32) (x3 : Int32) (s0 : Int32) (A : Mem) (h : wp_Mo_doMat_c42 K x0 x1 x2 x3 s0 A) : G X E A 42 [(0, cr E x0), (1, .int (x1)), (2, .int (x2)), (3, .int (x3))] [.int (s0)] := by
  unfold wp_Mo_doMat_c42 at h
  refine g_istore (pc := 42) (lv0 := [(3, .int (x3)), (0, cr E x0), (1, .int (x1)), (2, .int (x2))]) hX d_Mo_doMat_42 (by rw [hN]; decide) (g_st1b (ks := [3, 0, 1, 2]) rfl rfl rfl rfl) ?_
  refine g_iload_n (pc := 44) hX d_Mo_doMat_44 rfl 1 rfl ?_
  refine g_iconst (pc := 45) (v := 5) hX d_Mo_doMat_45 (by decide) ?_
  refine g_icmp_le (pc := 46) (tgt := 63) hX d_Mo_doMat_46 (by decide) (fun q => ?_) (fun q => ?_)
  · have h := h.1 q
    refine g_iload (pc := 63) hX d_Mo_doMat_63 0 rfl ?_
    refine g_sub [2, 3, 4, 1, 0] rfl ?_
    exact k_Mo_doMat_c65 hX hR hN hQ _ _ _ _ _ _ _ h
  · have h := h.2 q
    refine g_aload_n (pc := 49) hX d_Mo_doMat_49 rfl 2 rfl ?_
    obtain ⟨f6, h⟩ := h
    refine g_getR (pc := 50) hX fl_Mo_49 rfl f6 d_Mo_doMat_50 ?_
    refine g_iload_n (pc := 53) hX d_Mo_doMat_53 rfl 3 rfl ?_
    refine g_bipush (pc := 54) (v := 8) hX d_Mo_doMat_54 (by decide) ?_
    refine g_imul (pc := 56) hX d_Mo_doMat_56 ?_
    refine g_iconst (pc := 57) (v := 3) hX d_Mo_doMat_57 (by decide) ?_
    refine g_iadd (pc := 58) hX d_Mo_doMat_58 ?_
    obtain ⟨f7, h⟩ := h
    obtain ⟨f8, h⟩ := h
    refine g_iaload (pc := 59) hX f7 f8 d_Mo_doMat_59 ?_
    refine g_goto (pc := 60) (tgt := 65) hX d_Mo_doMat_60 (by decide) ?_
    refine g_sub [2, 3, 4, 1, 0] rfl ?_
    exact k_Mo_doMat_c65 hX hR hN hQ _ _ _ _ _ _ _ h
set_option maxRecDepth 100000 in
set_option maxHeartbeats 4000000 in
theorem c_Mo_doMat (o : Nat) (p1 : Int32) (A : Mem) (K : Mem → Prop) (h : wp_Mo_doMat o p1 A K) : CtV y_Mo_doMat prog_14_method_72_code 12 6 145 (fun E => [cr E o, .int (p1)]) A K := by
  refine ctV_of "BasicMachineModel" (by decide) rfl (fun E => [(0, cr E o), (1, .int (p1))]) (fun E => by simp [lg_sl, cr_cat, ca_i, ca_l, ca_d]) (fun E => by simp [lv_args, cr_cat, ca_i, ca_l, ca_d]) (fun X E hX hR hN hQ => ?_)
  unfold wp_Mo_doMat at h
  refine g_aload_n (pc := 0) hX d_Mo_doMat_0 rfl 0 rfl ?_
  obtain ⟨f1, h⟩ := h
  refine g_getR (pc := 1) hX fl_Mo_49 rfl f1 d_Mo_doMat_1 ?_
  refine g_iload_n (pc := 4) hX d_Mo_doMat_4 rfl 1 rfl ?_
  refine g_bipush (pc := 5) (v := 8) hX d_Mo_doMat_5 (by decide) ?_
  refine g_imul (pc := 7) hX d_Mo_doMat_7 ?_
  obtain ⟨f2, h⟩ := h
  obtain ⟨f3, h⟩ := h
  refine g_iaload (pc := 8) hX f2 f3 d_Mo_doMat_8 ?_
  refine g_istore_n (pc := 9) (lv0 := [(1, .int (p1)), (0, cr E o)]) hX d_Mo_doMat_9 rfl (by rw [hN]; decide) (g_st1b (ks := [1, 0]) rfl rfl rfl rfl) ?_
  refine g_aload_n (pc := 10) hX d_Mo_doMat_10 rfl 2 rfl ?_
  refine g_getR (pc := 11) hX fl_Mo_49 rfl f1 d_Mo_doMat_11 ?_
  refine g_iload_n (pc := 14) hX d_Mo_doMat_14 rfl 1 rfl ?_
  refine g_bipush (pc := 15) (v := 8) hX d_Mo_doMat_15 (by decide) ?_
  refine g_imul (pc := 17) hX d_Mo_doMat_17 ?_
  refine g_iconst (pc := 18) (v := 1) hX d_Mo_doMat_18 (by decide) ?_
  refine g_iadd (pc := 19) hX d_Mo_doMat_19 ?_
  obtain ⟨f4, h⟩ := h
  refine g_iaload (pc := 20) hX f2 f4 d_Mo_doMat_20 ?_
  refine g_istore_n (pc := 21) (lv0 := [(2, .int ((gI A (gR A o 12) (Int32.toNatClampNeg (p1 * 8))))), (1, .int (p1)), (0, cr E o)]) hX d_Mo_doMat_21 rfl (by rw [hN]; decide) (g_st1b (ks := [0, 1, 2]) rfl rfl rfl rfl) ?_
  refine g_iload_n (pc := 22) hX d_Mo_doMat_22 rfl 0 rfl ?_
  refine g_iconst (pc := 23) (v := 3) hX d_Mo_doMat_23 (by decide) ?_
  refine g_icmp_ge (pc := 24) (tgt := 31) hX d_Mo_doMat_24 (by decide) (fun q => ?_) (fun q => ?_)
  · have h := h.1 q
    refine g_aload_n (pc := 31) hX d_Mo_doMat_31 rfl 3 rfl ?_
    refine g_getR (pc := 32) hX fl_Mo_49 rfl f1 d_Mo_doMat_32 ?_
    refine g_iload_n (pc := 35) hX d_Mo_doMat_35 rfl 2 rfl ?_
    refine g_bipush (pc := 36) (v := 8) hX d_Mo_doMat_36 (by decide) ?_
    refine g_imul (pc := 38) hX d_Mo_doMat_38 ?_
    refine g_iconst (pc := 39) (v := 2) hX d_Mo_doMat_39 (by decide) ?_
    refine g_iadd (pc := 40) hX d_Mo_doMat_40 ?_
    obtain ⟨f5, h⟩ := h
    refine g_iaload (pc := 41) hX f2 f5 d_Mo_doMat_41 ?_
    refine g_sub [3, 2, 1, 0] rfl ?_
    exact k_Mo_doMat_c42 hX hR hN hQ _ _ _ _ _ _ h
  · have h := h.2 q
    refine g_iload_n (pc := 27) hX d_Mo_doMat_27 rfl 1 rfl ?_
    refine g_goto (pc := 28) (tgt := 42) hX d_Mo_doMat_28 (by decide) ?_
    refine g_sub [3, 2, 1, 0] rfl ?_
    exact k_Mo_doMat_c42 hX hR hN hQ _ _ _ _ _ _ h
def wp_Mo_dimension_c20 (K : Mem → Prop) : Nat → Nat → Int32 → Int32 → Mem → Prop
  | 0, _, _, _, _ => False
  | n + 1, x0, x1, x4, A => ((((x1 * 36) + 36) ≤ x4 → K A) ∧ (¬ ((x1 * 36) + 36) ≤ x4 → kd x0 = 9 ∧ kd (gR A x0 35) = 53 ∧ vp_in x4 (al (gR A x0 35)) ∧ wp_Mo_dimension_c20 K n x0 x1 (x4 + 1) (sD A (gR A x0 35) (Int32.toNatClampNeg x4) FP.dconst0)))
def wp_Mo_dimension (o : Nat) (p1 : Int32) (p2 : Int32) (p3 : Int32) (A : Mem) (K : Mem → Prop) : Prop := kd o = 9 ∧ kd (gR A o 38) = 51 ∧ vp_in p1 (al (gR A o 38)) ∧ kd (gR (sI A (gR A o 38) (Int32.toNatClampNeg p1) p2) o 39) = 51 ∧ vp_in p1 (al (gR (sI A (gR A o 38) (Int32.toNatClampNeg p1) p2) o 39)) ∧ ∀ A6 : Mem, A6 = (sI (sI A (gR A o 38) (Int32.toNatClampNeg p1) p2) (gR (sI A (gR A o 38) (Int32.toNatClampNeg p1) p2) o 39) (Int32.toNatClampNeg p1) p3) → (∃ n9 : Nat, wp_Mo_dimension_c20 K n9 o p1 (p1 * 36) A6)
set_option maxRecDepth 100000 in
set_option maxHeartbeats 4000000 in
theorem k_Mo_dimension_c20 {X : CXT} {E : EVT} {K : Mem → Prop} (hX : Gd X E "BasicMachineModel" prog_14_method_73_code) (hR : Rm X 0 0) (hN : xnL X = 5) (hQ : QV X E K) : ∀ (n : Nat) (x0 : Nat) (x1 : Int32) (x4 : Int32) (A : Mem), wp_Mo_dimension_c20 K n x0 x1 x4 A → G X E A 20 [(0, cr E x0), (1, .int (x1)), (4, .int (x4))] [] := by
  intro n
  induction n with
  | zero => intro x0 x1 x4 A h; exact h.elim
  | succ n ih =>
    intro x0 x1 x4 A h
    rw [wp_Mo_dimension_c20] at h
    refine g_iload (pc := 20) hX d_Mo_dimension_20 2 rfl ?_
    refine g_iload_n (pc := 22) hX d_Mo_dimension_22 rfl 1 rfl ?_
    refine g_bipush (pc := 23) (v := 36) hX d_Mo_dimension_23 (by decide) ?_
    refine g_imul (pc := 25) hX d_Mo_dimension_25 ?_
    refine g_bipush (pc := 26) (v := 36) hX d_Mo_dimension_26 (by decide) ?_
    refine g_iadd (pc := 28) hX d_Mo_dimension_28 ?_
    refine g_icmp_ge (pc := 29) (tgt := 46) hX d_Mo_dimension_29 (by decide) (fun q => ?_) (fun q => ?_)
    · have h := h.1 q
      exact g_vret hX hQ h d_Mo_dimension_46
    · have h := h.2 q
      refine g_aload_n (pc := 32) hX d_Mo_dimension_32 rfl 0 rfl ?_
      obtain ⟨f7, h⟩ := h
      refine g_getR (pc := 33) hX fl_Mo_119 rfl f7 d_Mo_dimension_33 ?_
      refine g_iload (pc := 36) hX d_Mo_dimension_36 2 rfl ?_
      refine g_dconst0 (pc := 38) hX d_Mo_dimension_38 ?_
      obtain ⟨f8, h⟩ := h
      obtain ⟨f9, h⟩ := h
      refine g_dastore (pc := 39) hX f8 f9 d_Mo_dimension_39 ?_
      refine g_iinc (pc := 40) (v := (x4 + 1)) (lv0 := [(0, cr E x0), (1, .int (x1))]) hX d_Mo_dimension_40 2 rfl rfl (by rw [hN]; decide) (g_st1 (ks := [0, 1]) rfl rfl) ?_
      refine g_goto (pc := 43) (tgt := 20) hX d_Mo_dimension_43 (by decide) ?_
      refine g_sub [1, 2, 0] rfl ?_
      exact ih _ _ _ _ h
set_option maxRecDepth 100000 in
set_option maxHeartbeats 4000000 in
theorem c_Mo_dimension (o : Nat) (p1 : Int32) (p2 : Int32) (p3 : Int32) (A : Mem) (K : Mem → Prop) (h : wp_Mo_dimension o p1 p2 p3 A K) : CtV y_Mo_dimension prog_14_method_73_code 5 0 0 (fun E => [cr E o, .int (p1), .int (p2), .int (p3)]) A K := by
  refine ctV_of "BasicMachineModel" (by decide) rfl (fun E => [(0, cr E o), (1, .int (p1)), (2, .int (p2)), (3, .int (p3))]) (fun E => by simp [lg_sl, cr_cat, ca_i, ca_l, ca_d]) (fun E => by simp [lv_args, cr_cat, ca_i, ca_l, ca_d]) (fun X E hX hR hN hQ => ?_)
  unfold wp_Mo_dimension at h
  refine g_aload_n (pc := 0) hX d_Mo_dimension_0 rfl 0 rfl ?_
  obtain ⟨f1, h⟩ := h
  refine g_getR (pc := 1) hX fl_Mo_128 rfl f1 d_Mo_dimension_1 ?_
  refine g_iload_n (pc := 4) hX d_Mo_dimension_4 rfl 1 rfl ?_
  refine g_iload_n (pc := 5) hX d_Mo_dimension_5 rfl 2 rfl ?_
  obtain ⟨f2, h⟩ := h
  obtain ⟨f3, h⟩ := h
  refine g_iastore (pc := 6) hX f2 f3 d_Mo_dimension_6 ?_
  refine g_aload_n (pc := 7) hX d_Mo_dimension_7 rfl 0 rfl ?_
  refine g_getR (pc := 8) hX fl_Mo_131 rfl f1 d_Mo_dimension_8 ?_
  refine g_iload_n (pc := 11) hX d_Mo_dimension_11 rfl 1 rfl ?_
  refine g_iload_n (pc := 12) hX d_Mo_dimension_12 rfl 3 rfl ?_
  obtain ⟨f4, h⟩ := h
  obtain ⟨f5, h⟩ := h
  refine g_iastore (pc := 13) hX f4 f5 d_Mo_dimension_13 ?_
  refine g_nm (fun A6 eA6 => ?_)
  have h := h A6 eA6
  refine g_iload_n (pc := 14) hX d_Mo_dimension_14 rfl 1 rfl ?_
  refine g_bipush (pc := 15) (v := 36) hX d_Mo_dimension_15 (by decide) ?_
  refine g_imul (pc := 17) hX d_Mo_dimension_17 ?_
  refine g_istore (pc := 18) (lv0 := [(3, .int (p3)), (0, cr E o), (1, .int (p1)), (2, .int (p2))]) hX d_Mo_dimension_18 (by rw [hN]; decide) (g_st1b (ks := [3, 0, 1, 2]) rfl rfl rfl rfl) ?_
  refine g_sub [2, 3, 0] rfl ?_
  obtain ⟨n9, h⟩ := h
  exact k_Mo_dimension_c20 hX hR hN hQ n9 _ _ _ _ h
def wp_Mo_step_c366 (K : Int32 → Mem → Prop) (x0 : Nat) (x1 : Int32) (x2 : Int32) (x4 : Int32) (A : Mem) : Prop := ((¬ x2 = 14 → ((¬ x2 = 16 → K x4 A) ∧ (x2 = 16 → K (-1) A))) ∧ (x2 = 14 → kd x0 = 9 ∧ wp_Mo_doMat x0 x1 A (fun (A60 : Mem) => ((¬ x2 = 16 → K x4 A60) ∧ (x2 = 16 → K (-1) A60)))))
def wp_Mo_step_c320 (K : Int32 → Mem → Prop) (x0 : Nat) (x1 : Int32) (x2 : Int32) (x3 : Int32) (x4 : Int32) (A : Mem) : Prop := ((¬ x2 = 12 → ((¬ x2 = 13 → wp_Mo_step_c366 K x0 x1 x2 x4 A) ∧ (x2 = 13 → kd x0 = 9 ∧ kd (gR A x0 37) = 51 ∧ vp_in x3 (al (gR A x0 37)) ∧ wp_Mo_step_c366 K x0 x1 x2 x4 (sI A (gR A x0 37) (Int32.toNatClampNeg x3) x1)))) ∧ (x2 = 12 → kd x0 = 9 ∧ kd (gR A x0 12) = 51 ∧ vp_in ((x1 * 8) + 1) (al (gR A x0 12)) ∧ vp_in ((x1 * 8) + 2) (al (gR A x0 12)) ∧ wp_Mo_dimension x0 x3 (gI A (gR A x0 12) (Int32.toNatClampNeg ((x1 * 8) + 1))) (gI A (gR A x0 12) (Int32.toNatClampNeg ((x1 * 8) + 2))) A (fun (A57 : Mem) => ((¬ x2 = 13 → wp_Mo_step_c366 K x0 x1 x2 x4 A57) ∧ (x2 = 13 → kd (gR A57 x0 37) = 51 ∧ vp_in x3 (al (gR A57 x0 37)) ∧ wp_Mo_step_c366 K x0 x1 x2 x4 (sI A57 (gR A57 x0 37) (Int32.toNatClampNeg x3) x1))))))
def wp_Mo_step_c281 (K : Int32 → Mem → Prop) (x0 : Nat) (x1 : Int32) (x2 : Int32) (x3 : Int32) (x4 : Int32) (A : Mem) : Prop := ((¬ x2 = 7 → ((¬ x2 = 8 → ((¬ x2 = 11 → wp_Mo_step_c320 K x0 x1 x2 x3 x4 A) ∧ (x2 = 11 → kd x0 = 9 ∧ wp_Mo_step_c320 K x0 x1 x2 x3 x4 (sI A x0 19 0)))) ∧ (x2 = 8 → kd x0 = 9 ∧ wp_Mo_doNext x0 x1 x4 A (fun (r45 : Int32) (A44 : Mem) => K r45 A44)))) ∧ (x2 = 7 → kd x0 = 9 ∧ wp_Mo_doFor x0 x1 x4 A (fun (r48 : Int32) (A47 : Mem) => K r48 A47)))
def wp_Mo_step_c255 (K : Int32 → Mem → Prop) (x0 : Nat) (x1 : Int32) (x2 : Int32) (x3 : Int32) (x4 : Int32) (A : Mem) : Prop := ((¬ x2 = 6 → wp_Mo_step_c281 K x0 x1 x2 x3 x4 A) ∧ (x2 = 6 → kd x0 = 9 ∧ kd (gR (sI A x0 22 ((gI A x0 22) - 1)) x0 40) = 51 ∧ vp_in (gI (sI A x0 22 ((gI A x0 22) - 1)) x0 22) (al (gR (sI A x0 22 ((gI A x0 22) - 1)) x0 40)) ∧ K (gI (sI A x0 22 ((gI A x0 22) - 1)) (gR (sI A x0 22 ((gI A x0 22) - 1)) x0 40) (Int32.toNatClampNeg (gI (sI A x0 22 ((gI A x0 22) - 1)) x0 22))) (sI A x0 22 ((gI A x0 22) - 1))))
def wp_Mo_step_c199 (K : Int32 → Mem → Prop) (x0 : Nat) (x1 : Int32) (x2 : Int32) (x3 : Int32) (x4 : Int32) (A : Mem) : Prop := ((¬ x2 = 3 → ((¬ x2 = 4 → ((¬ x2 = 5 → ((¬ x2 = 6 → wp_Mo_step_c255 K x0 x1 x2 x3 x4 A) ∧ (x2 = 6 → kd x0 = 9 ∧ ((¬ (gI A x0 22) = 0 → wp_Mo_step_c255 K x0 x1 x2 x3 x4 A) ∧ ((gI A x0 22) = 0 → wp_Mo_step_c281 K x0 x1 x2 x3 x4 (sI A x0 27 2)))))) ∧ (x2 = 5 → kd x0 = 9 ∧ wp_Mo_goSub x0 x1 x4 A (fun (r32 : Int32) (A31 : Mem) => K r32 A31)))) ∧ (x2 = 4 → kd x0 = 9 ∧ wp_Mo_choose x0 x1 A (fun (r35 : Int32) (A34 : Mem) => K r35 A34)))) ∧ (x2 = 3 → kd x0 = 9 ∧ wp_Mo_goTo x0 x3 A (fun (r38 : Int32) (A37 : Mem) => K r38 A37)))
def wp_Mo_step_c162 (K : Int32 → Mem → Prop) (x0 : Nat) (x1 : Int32) (x2 : Int32) (x3 : Int32) (x4 : Int32) (x5 : UInt64) (s0 : UInt64) (A : Mem) : Prop := kd x0 = 9 ∧ ((¬ (gI A x0 27) = 0 → wp_Mo_step_c199 K x0 x1 x2 x3 x4 A) ∧ ((gI A x0 27) = 0 → kd (gR A x0 12) = 51 ∧ vp_in ((x1 * 8) + 1) (al (gR A x0 12)) ∧ wp_Mo_holds x0 (gI A (gR A x0 12) (Int32.toNatClampNeg ((x1 * 8) + 1))) x5 s0 A (fun (r66 : Bool) (A65 : Mem) => ((r66 = false → wp_Mo_step_c199 K x0 x1 x2 x3 x4 A65) ∧ (r66 = true → wp_Mo_goTo x0 x3 A65 (fun (r68 : Int32) (A67 : Mem) => K r68 A67))))))
def wp_Mo_step_c118 (K : Int32 → Mem → Prop) (x0 : Nat) (x1 : Int32) (x2 : Int32) (x3 : Int32) (x4 : Int32) (A : Mem) : Prop := ((¬ x2 = 2 → wp_Mo_step_c199 K x0 x1 x2 x3 x4 A) ∧ (x2 = 2 → kd x0 = 9 ∧ kd (gR A x0 13) = 51 ∧ vp_in (x1 * 4) (al (gR A x0 13)) ∧ wp_Mo_work x0 (gI A (gR A x0 13) (Int32.toNatClampNeg (x1 * 4))) A (fun (r25 : UInt64) (A24 : Mem) => ((¬ (gI A24 x0 27) = 0 → wp_Mo_step_c162 K x0 x1 x2 x3 x4 r25 FP.dconst0 A24) ∧ ((gI A24 x0 27) = 0 → kd (gR A24 x0 13) = 51 ∧ vp_in ((x1 * 4) + 1) (al (gR A24 x0 13)) ∧ wp_Mo_work x0 (gI A24 (gR A24 x0 13) (Int32.toNatClampNeg ((x1 * 4) + 1))) A24 (fun (r29 : UInt64) (A28 : Mem) => wp_Mo_step_c162 K x0 x1 x2 x3 x4 r25 r29 A28))))))
def wp_Mo_step_c55 (K : Int32 → Mem → Prop) (x0 : Nat) (x1 : Int32) (x2 : Int32) (x3 : Int32) (x4 : Int32) (A : Mem) : Prop := ((¬ x2 = 1 → wp_Mo_step_c118 K x0 x1 x2 x3 x4 A) ∧ (x2 = 1 → kd x0 = 9 ∧ kd (gR A x0 13) = 51 ∧ vp_in (x1 * 4) (al (gR A x0 13)) ∧ wp_Mo_work x0 (gI A (gR A x0 13) (Int32.toNatClampNeg (x1 * 4))) A (fun (r18 : UInt64) (A17 : Mem) => ((¬ (gI A17 x0 27) = 0 → ((¬ (gI A17 x0 27) = 0 → wp_Mo_step_c118 K x0 x1 x2 x3 x4 A17) ∧ ((gI A17 x0 27) = 0 → wp_Mo_step_c118 K x0 x1 x2 x3 x4 (sI A17 x0 18 ((gI A17 x0 18) + 1))))) ∧ ((gI A17 x0 27) = 0 → ((40 ≤ (gI A17 x0 18) → ((¬ (gI A17 x0 27) = 0 → wp_Mo_step_c118 K x0 x1 x2 x3 x4 A17) ∧ ((gI A17 x0 27) = 0 → wp_Mo_step_c118 K x0 x1 x2 x3 x4 (sI A17 x0 18 ((gI A17 x0 18) + 1))))) ∧ (¬ 40 ≤ (gI A17 x0 18) → kd (gR A17 x0 28) = 53 ∧ vp_in (gI A17 x0 18) (al (gR A17 x0 28)) ∧ ((¬ (gI (sD A17 (gR A17 x0 28) (Int32.toNatClampNeg (gI A17 x0 18)) r18) x0 27) = 0 → wp_Mo_step_c118 K x0 x1 x2 x3 x4 (sD A17 (gR A17 x0 28) (Int32.toNatClampNeg (gI A17 x0 18)) r18)) ∧ ((gI (sD A17 (gR A17 x0 28) (Int32.toNatClampNeg (gI A17 x0 18)) r18) x0 27) = 0 → wp_Mo_step_c118 K x0 x1 x2 x3 x4 (sI (sD A17 (gR A17 x0 28) (Int32.toNatClampNeg (gI A17 x0 18)) r18) x0 18 ((gI (sD A17 (gR A17 x0 28) (Int32.toNatClampNeg (gI A17 x0 18)) r18) x0 18) + 1)))))))))))
def wp_Mo_step (o : Nat) (p1 : Int32) (A : Mem) (K : Int32 → Mem → Prop) : Prop := kd o = 9 ∧ kd (gR A o 11) = 51 ∧ vp_in p1 (al (gR A o 11)) ∧ kd (gR A o 12) = 51 ∧ vp_in (p1 * 8) (al (gR A o 12)) ∧ kd (gR A o 10) = 51 ∧ vp_in p1 (al (gR A o 10)) ∧ wp_Mo_nextSlot o (gI A (gR A o 10) (Int32.toNatClampNeg p1)) A (fun (r9 : Int32) (A8 : Mem) => (((gI A (gR A o 11) (Int32.toNatClampNeg p1)) = 0 → ((¬ (gI A (gR A o 11) (Int32.toNatClampNeg p1)) = 9 → wp_Mo_assign o p1 0 A8 (fun (A10 : Mem) => wp_Mo_step_c55 K o p1 (gI A (gR A o 11) (Int32.toNatClampNeg p1)) (gI A (gR A o 12) (Int32.toNatClampNeg (p1 * 8))) r9 A10)) ∧ ((gI A (gR A o 11) (Int32.toNatClampNeg p1)) = 9 → wp_Mo_assign o p1 1 A8 (fun (A11 : Mem) => wp_Mo_step_c55 K o p1 (gI A (gR A o 11) (Int32.toNatClampNeg p1)) (gI A (gR A o 12) (Int32.toNatClampNeg (p1 * 8))) r9 A11)))) ∧ (¬ (gI A (gR A o 11) (Int32.toNatClampNeg p1)) = 0 → ((¬ (gI A (gR A o 11) (Int32.toNatClampNeg p1)) = 9 → wp_Mo_step_c55 K o p1 (gI A (gR A o 11) (Int32.toNatClampNeg p1)) (gI A (gR A o 12) (Int32.toNatClampNeg (p1 * 8))) r9 A8) ∧ ((gI A (gR A o 11) (Int32.toNatClampNeg p1)) = 9 → ((¬ (gI A (gR A o 11) (Int32.toNatClampNeg p1)) = 9 → wp_Mo_assign o p1 0 A8 (fun (A12 : Mem) => wp_Mo_step_c55 K o p1 (gI A (gR A o 11) (Int32.toNatClampNeg p1)) (gI A (gR A o 12) (Int32.toNatClampNeg (p1 * 8))) r9 A12)) ∧ ((gI A (gR A o 11) (Int32.toNatClampNeg p1)) = 9 → wp_Mo_assign o p1 1 A8 (fun (A13 : Mem) => wp_Mo_step_c55 K o p1 (gI A (gR A o 11) (Int32.toNatClampNeg p1)) (gI A (gR A o 12) (Int32.toNatClampNeg (p1 * 8))) r9 A13))))))))
set_option maxRecDepth 100000 in
set_option maxHeartbeats 4000000 in
theorem k_Mo_step_c366 {X : CXT} {E : EVT} {K : Int32 → Mem → Prop} (hX : Gd X E "BasicMachineModel" prog_14_method_74_code) (hR : Rm X 7 176) (hN : xnL X = 9) (hQ : QI X E K) (x0 : Nat) (x1 : Int32) (x2 : Int32) (x4 : Int32) (A : Mem) (h : wp_Mo_step_c366 K x0 x1 x2 x4 A) : G X E A 366 [(0, cr E x0), (1, .int (x1)), (2, .int (x2)), (4, .int (x4))] [] := by
  unfold wp_Mo_step_c366 at h
  refine g_iload_n (pc := 366) hX d_Mo_step_366 rfl 2 rfl ?_
  refine g_bipush (pc := 367) (v := 14) hX d_Mo_step_367 (by decide) ?_
  refine g_icmp_ne (pc := 369) (tgt := 377) hX d_Mo_step_369 (by decide) (fun q => ?_) (fun q => ?_)
  · have h := h.1 q
    refine g_iload_n (pc := 377) hX d_Mo_step_377 rfl 2 rfl ?_
    refine g_bipush (pc := 378) (v := 16) hX d_Mo_step_378 (by decide) ?_
    refine g_icmp_ne (pc := 380) (tgt := 387) hX d_Mo_step_380 (by decide) (fun q => ?_) (fun q => ?_)
    · have h := h.1 q
      refine g_iload (pc := 387) hX d_Mo_step_387 3 rfl ?_
      exact g_iret hX hQ h d_Mo_step_389
    · have h := h.2 q
      refine g_iconst (pc := 383) (v := (-1)) hX d_Mo_step_383 (by decide) ?_
      refine g_goto (pc := 384) (tgt := 389) hX d_Mo_step_384 (by decide) ?_
      exact g_iret hX hQ h d_Mo_step_389
  · have h := h.2 q
    refine g_aload_n (pc := 372) hX d_Mo_step_372 rfl 0 rfl ?_
    refine g_iload_n (pc := 373) hX d_Mo_step_373 rfl 1 rfl ?_
    obtain ⟨f61, h⟩ := h
    refine g_callV_V (pc := 374) hX hR f61 cf9 rfl lk_Mo_437 mf_Mo_doMat (c_Mo_doMat _ _ _ _ h) rfl rfl rfl ⟨by decide, by decide⟩ (cat_sum _ (Nat.le_of_ble_eq_true rfl)) d_Mo_step_374 (fun A60 h => ?_)
    refine g_iload_n (pc := 377) hX d_Mo_step_377 rfl 2 rfl ?_
    refine g_bipush (pc := 378) (v := 16) hX d_Mo_step_378 (by decide) ?_
    refine g_icmp_ne (pc := 380) (tgt := 387) hX d_Mo_step_380 (by decide) (fun q => ?_) (fun q => ?_)
    · have h := h.1 q
      refine g_iload (pc := 387) hX d_Mo_step_387 3 rfl ?_
      exact g_iret hX hQ h d_Mo_step_389
    · have h := h.2 q
      refine g_iconst (pc := 383) (v := (-1)) hX d_Mo_step_383 (by decide) ?_
      refine g_goto (pc := 384) (tgt := 389) hX d_Mo_step_384 (by decide) ?_
      exact g_iret hX hQ h d_Mo_step_389
set_option maxRecDepth 100000 in
set_option maxHeartbeats 4000000 in
theorem k_Mo_step_c320 {X : CXT} {E : EVT} {K : Int32 → Mem → Prop} (hX : Gd X E "BasicMachineModel" prog_14_method_74_code) (hR : Rm X 7 176) (hN : xnL X = 9) (hQ : QI X E K) (x0 : Nat) (x1 : Int32) (x2 : Int32) (x3 : Int32) (x4 : Int32) (A : Mem) (h : wp_Mo_step_c320 K x0 x1 x2 x3 x4 A) : G X E A 320 [(0, cr E x0), (1, .int (x1)), (2, .int (x2)), (3, .int (x3)), (4, .int (x4))] [] := by
  unfold wp_Mo_step_c320 at h
  refine g_iload_n (pc := 320) hX d_Mo_step_320 rfl 2 rfl ?_
  refine g_bipush (pc := 321) (v := 12) hX d_Mo_step_321 (by decide) ?_
  refine g_icmp_ne (pc := 323) (tgt := 353) hX d_Mo_step_323 (by decide) (fun q => ?_) (fun q => ?_)
  · have h := h.1 q
    refine g_iload_n (pc := 353) hX d_Mo_step_353 rfl 2 rfl ?_
    refine g_bipush (pc := 354) (v := 13) hX d_Mo_step_354 (by decide) ?_
    refine g_icmp_ne (pc := 356) (tgt := 366) hX d_Mo_step_356 (by decide) (fun q => ?_) (fun q => ?_)
    · have h := h.1 q
      refine g_sub [0, 1, 2, 4] rfl ?_
      exact k_Mo_step_c366 hX hR hN hQ _ _ _ _ _ h
    · have h := h.2 q
      refine g_aload_n (pc := 359) hX d_Mo_step_359 rfl 0 rfl ?_
      obtain ⟨f50, h⟩ := h
      refine g_getR (pc := 360) hX fl_Mo_125 rfl f50 d_Mo_step_360 ?_
      refine g_iload_n (pc := 363) hX d_Mo_step_363 rfl 3 rfl ?_
      refine g_iload_n (pc := 364) hX d_Mo_step_364 rfl 1 rfl ?_
      obtain ⟨f51, h⟩ := h
      obtain ⟨f52, h⟩ := h
      refine g_iastore (pc := 365) hX f51 f52 d_Mo_step_365 ?_
      refine g_sub [0, 1, 2, 4] rfl ?_
      exact k_Mo_step_c366 hX hR hN hQ _ _ _ _ _ h
  · have h := h.2 q
    refine g_aload_n (pc := 326) hX d_Mo_step_326 rfl 0 rfl ?_
    refine g_iload_n (pc := 327) hX d_Mo_step_327 rfl 3 rfl ?_
    refine g_aload_n (pc := 328) hX d_Mo_step_328 rfl 0 rfl ?_
    obtain ⟨f53, h⟩ := h
    refine g_getR (pc := 329) hX fl_Mo_49 rfl f53 d_Mo_step_329 ?_
    refine g_iload_n (pc := 332) hX d_Mo_step_332 rfl 1 rfl ?_
    refine g_bipush (pc := 333) (v := 8) hX d_Mo_step_333 (by decide) ?_
    refine g_imul (pc := 335) hX d_Mo_step_335 ?_
    refine g_iconst (pc := 336) (v := 1) hX d_Mo_step_336 (by decide) ?_
    refine g_iadd (pc := 337) hX d_Mo_step_337 ?_
    obtain ⟨f54, h⟩ := h
    obtain ⟨f55, h⟩ := h
    refine g_iaload (pc := 338) hX f54 f55 d_Mo_step_338 ?_
    refine g_aload_n (pc := 339) hX d_Mo_step_339 rfl 0 rfl ?_
    refine g_getR (pc := 340) hX fl_Mo_49 rfl f53 d_Mo_step_340 ?_
    refine g_iload_n (pc := 343) hX d_Mo_step_343 rfl 1 rfl ?_
    refine g_bipush (pc := 344) (v := 8) hX d_Mo_step_344 (by decide) ?_
    refine g_imul (pc := 346) hX d_Mo_step_346 ?_
    refine g_iconst (pc := 347) (v := 2) hX d_Mo_step_347 (by decide) ?_
    refine g_iadd (pc := 348) hX d_Mo_step_348 ?_
    obtain ⟨f56, h⟩ := h
    refine g_iaload (pc := 349) hX f54 f56 d_Mo_step_349 ?_
    refine g_callV_V (pc := 350) hX hR f53 cf9 rfl lk_Mo_433 mf_Mo_dimension (c_Mo_dimension _ _ _ _ _ _ h) rfl rfl rfl ⟨by decide, by decide⟩ (cat_sum _ (Nat.le_of_ble_eq_true rfl)) d_Mo_step_350 (fun A57 h => ?_)
    refine g_iload_n (pc := 353) hX d_Mo_step_353 rfl 2 rfl ?_
    refine g_bipush (pc := 354) (v := 13) hX d_Mo_step_354 (by decide) ?_
    refine g_icmp_ne (pc := 356) (tgt := 366) hX d_Mo_step_356 (by decide) (fun q => ?_) (fun q => ?_)
    · have h := h.1 q
      refine g_sub [0, 1, 2, 4] rfl ?_
      exact k_Mo_step_c366 hX hR hN hQ _ _ _ _ _ h
    · have h := h.2 q
      refine g_aload_n (pc := 359) hX d_Mo_step_359 rfl 0 rfl ?_
      refine g_getR (pc := 360) hX fl_Mo_125 rfl f53 d_Mo_step_360 ?_
      refine g_iload_n (pc := 363) hX d_Mo_step_363 rfl 3 rfl ?_
      refine g_iload_n (pc := 364) hX d_Mo_step_364 rfl 1 rfl ?_
      obtain ⟨f58, h⟩ := h
      obtain ⟨f59, h⟩ := h
      refine g_iastore (pc := 365) hX f58 f59 d_Mo_step_365 ?_
      refine g_sub [0, 1, 2, 4] rfl ?_
      exact k_Mo_step_c366 hX hR hN hQ _ _ _ _ _ h
set_option maxRecDepth 100000 in
set_option maxHeartbeats 4000000 in
theorem k_Mo_step_c281 {X : CXT} {E : EVT} {K : Int32 → Mem → Prop} (hX : Gd X E "BasicMachineModel" prog_14_method_74_code) (hR : Rm X 7 176) (hN : xnL X = 9) (hQ : QI X E K) (x0 : Nat) (x1 : Int32) (x2 : Int32) (x3 : Int32) (x4 : Int32) (A : Mem) (h : wp_Mo_step_c281 K x0 x1 x2 x3 x4 A) : G X E A 281 [(0, cr E x0), (1, .int (x1)), (2, .int (x2)), (3, .int (x3)), (4, .int (x4))] [] := by
  unfold wp_Mo_step_c281 at h
  refine g_iload_n (pc := 281) hX d_Mo_step_281 rfl 2 rfl ?_
  refine g_bipush (pc := 282) (v := 7) hX d_Mo_step_282 (by decide) ?_
  refine g_icmp_ne (pc := 284) (tgt := 295) hX d_Mo_step_284 (by decide) (fun q => ?_) (fun q => ?_)
  · have h := h.1 q
    refine g_iload_n (pc := 295) hX d_Mo_step_295 rfl 2 rfl ?_
    refine g_bipush (pc := 296) (v := 8) hX d_Mo_step_296 (by decide) ?_
    refine g_icmp_ne (pc := 298) (tgt := 309) hX d_Mo_step_298 (by decide) (fun q => ?_) (fun q => ?_)
    · have h := h.1 q
      refine g_iload_n (pc := 309) hX d_Mo_step_309 rfl 2 rfl ?_
      refine g_bipush (pc := 310) (v := 11) hX d_Mo_step_310 (by decide) ?_
      refine g_icmp_ne (pc := 312) (tgt := 320) hX d_Mo_step_312 (by decide) (fun q => ?_) (fun q => ?_)
      · have h := h.1 q
        refine g_sub [0, 1, 2, 3, 4] rfl ?_
        exact k_Mo_step_c320 hX hR hN hQ _ _ _ _ _ _ h
      · have h := h.2 q
        refine g_aload_n (pc := 315) hX d_Mo_step_315 rfl 0 rfl ?_
        refine g_iconst (pc := 316) (v := 0) hX d_Mo_step_316 (by decide) ?_
        obtain ⟨f43, h⟩ := h
        refine g_putI (pc := 317) hX fl_Mo_70 rfl rfl rfl f43 d_Mo_step_317 ?_
        refine g_sub [0, 1, 2, 3, 4] rfl ?_
        exact k_Mo_step_c320 hX hR hN hQ _ _ _ _ _ _ h
    · have h := h.2 q
      refine g_aload_n (pc := 301) hX d_Mo_step_301 rfl 0 rfl ?_
      refine g_iload_n (pc := 302) hX d_Mo_step_302 rfl 1 rfl ?_
      refine g_iload (pc := 303) hX d_Mo_step_303 4 rfl ?_
      obtain ⟨f46, h⟩ := h
      refine g_callV_I (pc := 305) hX hR f46 cf9 rfl lk_Mo_430 mf_Mo_doNext (c_Mo_doNext _ _ _ _ _ h) rfl rfl rfl ⟨by decide, by decide⟩ (cat_sum _ (Nat.le_of_ble_eq_true rfl)) d_Mo_step_305 (fun r45 A44 h => ?_)
      exact g_iret hX hQ h d_Mo_step_308
  · have h := h.2 q
    refine g_aload_n (pc := 287) hX d_Mo_step_287 rfl 0 rfl ?_
    refine g_iload_n (pc := 288) hX d_Mo_step_288 rfl 1 rfl ?_
    refine g_iload (pc := 289) hX d_Mo_step_289 4 rfl ?_
    obtain ⟨f49, h⟩ := h
    refine g_callV_I (pc := 291) hX hR f49 cf9 rfl lk_Mo_427 mf_Mo_doFor (c_Mo_doFor _ _ _ _ _ h) rfl rfl rfl ⟨by decide, by decide⟩ (cat_sum _ (Nat.le_of_ble_eq_true rfl)) d_Mo_step_291 (fun r48 A47 h => ?_)
    exact g_iret hX hQ h d_Mo_step_294
set_option maxRecDepth 100000 in
set_option maxHeartbeats 4000000 in
theorem k_Mo_step_c255 {X : CXT} {E : EVT} {K : Int32 → Mem → Prop} (hX : Gd X E "BasicMachineModel" prog_14_method_74_code) (hR : Rm X 7 176) (hN : xnL X = 9) (hQ : QI X E K) (x0 : Nat) (x1 : Int32) (x2 : Int32) (x3 : Int32) (x4 : Int32) (A : Mem) (h : wp_Mo_step_c255 K x0 x1 x2 x3 x4 A) : G X E A 255 [(0, cr E x0), (1, .int (x1)), (2, .int (x2)), (3, .int (x3)), (4, .int (x4))] [] := by
  unfold wp_Mo_step_c255 at h
  refine g_iload_n (pc := 255) hX d_Mo_step_255 rfl 2 rfl ?_
  refine g_bipush (pc := 256) (v := 6) hX d_Mo_step_256 (by decide) ?_
  refine g_icmp_ne (pc := 258) (tgt := 281) hX d_Mo_step_258 (by decide) (fun q => ?_) (fun q => ?_)
  · have h := h.1 q
    refine g_sub [0, 1, 2, 3, 4] rfl ?_
    exact k_Mo_step_c281 hX hR hN hQ _ _ _ _ _ _ h
  · have h := h.2 q
    refine g_aload_n (pc := 261) hX d_Mo_step_261 rfl 0 rfl ?_
    refine g_dup (pc := 262) hX d_Mo_step_262 (cr_cat _ _) ?_
    obtain ⟨f40, h⟩ := h
    refine g_getI (pc := 263) hX fl_Mo_79 rfl f40 d_Mo_step_263 ?_
    refine g_iconst (pc := 266) (v := 1) hX d_Mo_step_266 (by decide) ?_
    refine g_isub (pc := 267) hX d_Mo_step_267 ?_
    refine g_putI (pc := 268) hX fl_Mo_79 rfl rfl rfl f40 d_Mo_step_268 ?_
    refine g_aload_n (pc := 271) hX d_Mo_step_271 rfl 0 rfl ?_
    refine g_getR (pc := 272) hX fl_Mo_134 rfl f40 d_Mo_step_272 ?_
    refine g_aload_n (pc := 275) hX d_Mo_step_275 rfl 0 rfl ?_
    refine g_getI (pc := 276) hX fl_Mo_79 rfl f40 d_Mo_step_276 ?_
    obtain ⟨f41, h⟩ := h
    obtain ⟨f42, h⟩ := h
    refine g_iaload (pc := 279) hX f41 f42 d_Mo_step_279 ?_
    exact g_iret hX hQ h d_Mo_step_280
set_option maxRecDepth 100000 in
set_option maxHeartbeats 4000000 in
theorem k_Mo_step_c199 {X : CXT} {E : EVT} {K : Int32 → Mem → Prop} (hX : Gd X E "BasicMachineModel" prog_14_method_74_code) (hR : Rm X 7 176) (hN : xnL X = 9) (hQ : QI X E K) (x0 : Nat) (x1 : Int32) (x2 : Int32) (x3 : Int32) (x4 : Int32) (A : Mem) (h : wp_Mo_step_c199 K x0 x1 x2 x3 x4 A) : G X E A 199 [(0, cr E x0), (1, .int (x1)), (2, .int (x2)), (3, .int (x3)), (4, .int (x4))] [] := by
  unfold wp_Mo_step_c199 at h
  refine g_iload_n (pc := 199) hX d_Mo_step_199 rfl 2 rfl ?_
  refine g_iconst (pc := 200) (v := 3) hX d_Mo_step_200 (by decide) ?_
  refine g_icmp_ne (pc := 201) (tgt := 210) hX d_Mo_step_201 (by decide) (fun q => ?_) (fun q => ?_)
  · have h := h.1 q
    refine g_iload_n (pc := 210) hX d_Mo_step_210 rfl 2 rfl ?_
    refine g_iconst (pc := 211) (v := 4) hX d_Mo_step_211 (by decide) ?_
    refine g_icmp_ne (pc := 212) (tgt := 221) hX d_Mo_step_212 (by decide) (fun q => ?_) (fun q => ?_)
    · have h := h.1 q
      refine g_iload_n (pc := 221) hX d_Mo_step_221 rfl 2 rfl ?_
      refine g_iconst (pc := 222) (v := 5) hX d_Mo_step_222 (by decide) ?_
      refine g_icmp_ne (pc := 223) (tgt := 234) hX d_Mo_step_223 (by decide) (fun q => ?_) (fun q => ?_)
      · have h := h.1 q
        refine g_iload_n (pc := 234) hX d_Mo_step_234 rfl 2 rfl ?_
        refine g_bipush (pc := 235) (v := 6) hX d_Mo_step_235 (by decide) ?_
        refine g_icmp_ne (pc := 237) (tgt := 255) hX d_Mo_step_237 (by decide) (fun q => ?_) (fun q => ?_)
        · have h := h.1 q
          refine g_sub [0, 1, 2, 3, 4] rfl ?_
          exact k_Mo_step_c255 hX hR hN hQ _ _ _ _ _ _ h
        · have h := h.2 q
          refine g_aload_n (pc := 240) hX d_Mo_step_240 rfl 0 rfl ?_
          obtain ⟨f30, h⟩ := h
          refine g_getI (pc := 241) hX fl_Mo_79 rfl f30 d_Mo_step_241 ?_
          refine g_if_ne (pc := 244) (tgt := 255) hX d_Mo_step_244 (by decide) (fun q => ?_) (fun q => ?_)
          · have h := h.1 q
            refine g_sub [0, 1, 2, 3, 4] rfl ?_
            exact k_Mo_step_c255 hX hR hN hQ _ _ _ _ _ _ h
          · have h := h.2 q
            refine g_aload_n (pc := 247) hX d_Mo_step_247 rfl 0 rfl ?_
            refine g_iconst (pc := 248) (v := 2) hX d_Mo_step_248 (by decide) ?_
            refine g_putI (pc := 249) hX fl_Mo_94 rfl rfl rfl f30 d_Mo_step_249 ?_
            refine g_goto (pc := 252) (tgt := 281) hX d_Mo_step_252 (by decide) ?_
            refine g_sub [0, 1, 2, 3, 4] rfl ?_
            exact k_Mo_step_c281 hX hR hN hQ _ _ _ _ _ _ h
      · have h := h.2 q
        refine g_aload_n (pc := 226) hX d_Mo_step_226 rfl 0 rfl ?_
        refine g_iload_n (pc := 227) hX d_Mo_step_227 rfl 1 rfl ?_
        refine g_iload (pc := 228) hX d_Mo_step_228 4 rfl ?_
        obtain ⟨f33, h⟩ := h
        refine g_callV_I (pc := 230) hX hR f33 cf9 rfl lk_Mo_424 mf_Mo_goSub (c_Mo_goSub _ _ _ _ _ h) rfl rfl rfl ⟨by decide, by decide⟩ (cat_sum _ (Nat.le_of_ble_eq_true rfl)) d_Mo_step_230 (fun r32 A31 h => ?_)
        exact g_iret hX hQ h d_Mo_step_233
    · have h := h.2 q
      refine g_aload_n (pc := 215) hX d_Mo_step_215 rfl 0 rfl ?_
      refine g_iload_n (pc := 216) hX d_Mo_step_216 rfl 1 rfl ?_
      obtain ⟨f36, h⟩ := h
      refine g_callV_I (pc := 217) hX hR f36 cf9 rfl lk_Mo_421 mf_Mo_choose (c_Mo_choose _ _ _ _ h) rfl rfl rfl ⟨by decide, by decide⟩ (cat_sum _ (Nat.le_of_ble_eq_true rfl)) d_Mo_step_217 (fun r35 A34 h => ?_)
      exact g_iret hX hQ h d_Mo_step_220
  · have h := h.2 q
    refine g_aload_n (pc := 204) hX d_Mo_step_204 rfl 0 rfl ?_
    refine g_iload_n (pc := 205) hX d_Mo_step_205 rfl 3 rfl ?_
    obtain ⟨f39, h⟩ := h
    refine g_callV_I (pc := 206) hX hR f39 cf9 rfl lk_Mo_402 mf_Mo_goTo (c_Mo_goTo _ _ _ _ h) rfl rfl rfl ⟨by decide, by decide⟩ (cat_sum _ (Nat.le_of_ble_eq_true rfl)) d_Mo_step_206 (fun r38 A37 h => ?_)
    exact g_iret hX hQ h d_Mo_step_209
set_option maxRecDepth 100000 in
set_option maxHeartbeats 4000000 in
theorem k_Mo_step_c162 {X : CXT} {E : EVT} {K : Int32 → Mem → Prop} (hX : Gd X E "BasicMachineModel" prog_14_method_74_code) (hR : Rm X 7 176) (hN : xnL X = 9) (hQ : QI X E K) (x0 : Nat) (x1 : Int32) (x2 : Int32) (x3 : Int32) (x4 : Int32) (x5 : UInt64) (s0 : UInt64) (A : Mem) (h : wp_Mo_step_c162 K x0 x1 x2 x3 x4 x5 s0 A) : G X E A 162 [(0, cr E x0), (1, .int (x1)), (2, .int (x2)), (3, .int (x3)), (4, .int (x4)), (5, .double (x5))] [.double (s0)] := by
  unfold wp_Mo_step_c162 at h
  refine g_dstore (pc := 162) (lv0 := [(0, cr E x0), (1, .int (x1)), (2, .int (x2)), (3, .int (x3)), (4, .int (x4)), (5, .double (x5))]) hX d_Mo_step_162 (by rw [hN]; decide) (g_st2 (ks := [0, 1, 2, 3, 4, 5]) rfl rfl) ?_
  refine g_aload_n (pc := 164) hX d_Mo_step_164 rfl 1 rfl ?_
  obtain ⟨f62, h⟩ := h
  refine g_getI (pc := 165) hX fl_Mo_94 rfl f62 d_Mo_step_165 ?_
  refine g_if_ne (pc := 168) (tgt := 199) hX d_Mo_step_168 (by decide) (fun q => ?_) (fun q => ?_)
  · have h := h.1 q
    refine g_sub [1, 2, 3, 4, 5] rfl ?_
    exact k_Mo_step_c199 hX hR hN hQ _ _ _ _ _ _ h
  · have h := h.2 q
    refine g_aload_n (pc := 171) hX d_Mo_step_171 rfl 1 rfl ?_
    refine g_aload_n (pc := 172) hX d_Mo_step_172 rfl 1 rfl ?_
    refine g_getR (pc := 173) hX fl_Mo_49 rfl f62 d_Mo_step_173 ?_
    refine g_iload_n (pc := 176) hX d_Mo_step_176 rfl 2 rfl ?_
    refine g_bipush (pc := 177) (v := 8) hX d_Mo_step_177 (by decide) ?_
    refine g_imul (pc := 179) hX d_Mo_step_179 ?_
    refine g_iconst (pc := 180) (v := 1) hX d_Mo_step_180 (by decide) ?_
    refine g_iadd (pc := 181) hX d_Mo_step_181 ?_
    obtain ⟨f63, h⟩ := h
    obtain ⟨f64, h⟩ := h
    refine g_iaload (pc := 182) hX f63 f64 d_Mo_step_182 ?_
    refine g_dload (pc := 183) hX d_Mo_step_183 6 rfl ?_
    refine g_dload (pc := 185) hX d_Mo_step_185 0 rfl ?_
    refine g_callV_Z (pc := 187) hX hR f62 cf9 rfl lk_Mo_417 mf_Mo_holds (c_Mo_holds _ _ _ _ _ _ h) rfl rfl rfl ⟨by decide, by decide⟩ (cat_sum _ (Nat.le_of_ble_eq_true rfl)) d_Mo_step_187 (fun r66 A65 h => ?_)
    refine g_ifB_eq (pc := 190) (tgt := 199) hX d_Mo_step_190 (by decide) (fun q => ?_) (fun q => ?_)
    · have h := h.1 q
      refine g_sub [1, 2, 3, 4, 5] rfl ?_
      exact k_Mo_step_c199 hX hR hN hQ _ _ _ _ _ _ h
    · have h := h.2 q
      refine g_aload_n (pc := 193) hX d_Mo_step_193 rfl 1 rfl ?_
      refine g_iload_n (pc := 194) hX d_Mo_step_194 rfl 4 rfl ?_
      refine g_callV_I (pc := 195) hX hR f62 cf9 rfl lk_Mo_402 mf_Mo_goTo (c_Mo_goTo _ _ _ _ h) rfl rfl rfl ⟨by decide, by decide⟩ (cat_sum _ (Nat.le_of_ble_eq_true rfl)) d_Mo_step_195 (fun r68 A67 h => ?_)
      exact g_iret hX hQ h d_Mo_step_198
set_option maxRecDepth 100000 in
set_option maxHeartbeats 4000000 in
theorem k_Mo_step_c118 {X : CXT} {E : EVT} {K : Int32 → Mem → Prop} (hX : Gd X E "BasicMachineModel" prog_14_method_74_code) (hR : Rm X 7 176) (hN : xnL X = 9) (hQ : QI X E K) (x0 : Nat) (x1 : Int32) (x2 : Int32) (x3 : Int32) (x4 : Int32) (A : Mem) (h : wp_Mo_step_c118 K x0 x1 x2 x3 x4 A) : G X E A 118 [(0, cr E x0), (1, .int (x1)), (2, .int (x2)), (3, .int (x3)), (4, .int (x4))] [] := by
  unfold wp_Mo_step_c118 at h
  refine g_iload_n (pc := 118) hX d_Mo_step_118 rfl 2 rfl ?_
  refine g_iconst (pc := 119) (v := 2) hX d_Mo_step_119 (by decide) ?_
  refine g_icmp_ne (pc := 120) (tgt := 199) hX d_Mo_step_120 (by decide) (fun q => ?_) (fun q => ?_)
  · have h := h.1 q
    refine g_sub [0, 1, 2, 3, 4] rfl ?_
    exact k_Mo_step_c199 hX hR hN hQ _ _ _ _ _ _ h
  · have h := h.2 q
    refine g_aload_n (pc := 123) hX d_Mo_step_123 rfl 0 rfl ?_
    refine g_aload_n (pc := 124) hX d_Mo_step_124 rfl 0 rfl ?_
    obtain ⟨f21, h⟩ := h
    refine g_getR (pc := 125) hX fl_Mo_52 rfl f21 d_Mo_step_125 ?_
    refine g_iload_n (pc := 128) hX d_Mo_step_128 rfl 1 rfl ?_
    refine g_iconst (pc := 129) (v := 4) hX d_Mo_step_129 (by decide) ?_
    refine g_imul (pc := 130) hX d_Mo_step_130 ?_
    obtain ⟨f22, h⟩ := h
    obtain ⟨f23, h⟩ := h
    refine g_iaload (pc := 131) hX f22 f23 d_Mo_step_131 ?_
    refine g_callV_D (pc := 132) hX hR f21 cf9 rfl lk_Mo_392 mf_Mo_work (c_Mo_work _ _ _ _ h) rfl rfl rfl ⟨by decide, by decide⟩ (cat_sum _ (Nat.le_of_ble_eq_true rfl)) d_Mo_step_132 (fun r25 A24 h => ?_)
    refine g_dstore (pc := 135) (lv0 := [(4, .int (x4)), (0, cr E x0), (1, .int (x1)), (2, .int (x2)), (3, .int (x3))]) hX d_Mo_step_135 (by rw [hN]; decide) (g_st2b (ks := [4, 0, 1, 2, 3]) rfl rfl rfl rfl rfl) ?_
    refine g_aload_n (pc := 137) hX d_Mo_step_137 rfl 2 rfl ?_
    refine g_getI (pc := 138) hX fl_Mo_94 rfl f21 d_Mo_step_138 ?_
    refine g_if_ne (pc := 141) (tgt := 161) hX d_Mo_step_141 (by decide) (fun q => ?_) (fun q => ?_)
    · have h := h.1 q
      refine g_dconst0 (pc := 161) hX d_Mo_step_161 ?_
      refine g_sub [2, 3, 4, 5, 1, 0] rfl ?_
      exact k_Mo_step_c162 hX hR hN hQ _ _ _ _ _ _ _ _ h
    · have h := h.2 q
      refine g_aload_n (pc := 144) hX d_Mo_step_144 rfl 2 rfl ?_
      refine g_aload_n (pc := 145) hX d_Mo_step_145 rfl 2 rfl ?_
      refine g_getR (pc := 146) hX fl_Mo_52 rfl f21 d_Mo_step_146 ?_
      refine g_iload_n (pc := 149) hX d_Mo_step_149 rfl 3 rfl ?_
      refine g_iconst (pc := 150) (v := 4) hX d_Mo_step_150 (by decide) ?_
      refine g_imul (pc := 151) hX d_Mo_step_151 ?_
      refine g_iconst (pc := 152) (v := 1) hX d_Mo_step_152 (by decide) ?_
      refine g_iadd (pc := 153) hX d_Mo_step_153 ?_
      obtain ⟨f26, h⟩ := h
      obtain ⟨f27, h⟩ := h
      refine g_iaload (pc := 154) hX f26 f27 d_Mo_step_154 ?_
      refine g_callV_D (pc := 155) hX hR f21 cf9 rfl lk_Mo_392 mf_Mo_work (c_Mo_work _ _ _ _ h) rfl rfl rfl ⟨by decide, by decide⟩ (cat_sum _ (Nat.le_of_ble_eq_true rfl)) d_Mo_step_155 (fun r29 A28 h => ?_)
      refine g_goto (pc := 158) (tgt := 162) hX d_Mo_step_158 (by decide) ?_
      refine g_sub [2, 3, 4, 5, 1, 0] rfl ?_
      exact k_Mo_step_c162 hX hR hN hQ _ _ _ _ _ _ _ _ h
set_option maxRecDepth 100000 in
set_option maxHeartbeats 4000000 in
theorem k_Mo_step_c55 {X : CXT} {E : EVT} {K : Int32 → Mem → Prop} (hX : Gd X E "BasicMachineModel" prog_14_method_74_code) (hR : Rm X 7 176) (hN : xnL X = 9) (hQ : QI X E K) (x0 : Nat) (x1 : Int32) (x2 : Int32) (x3 : Int32) (x4 : Int32) (A : Mem) (h : wp_Mo_step_c55 K x0 x1 x2 x3 x4 A) : G X E A 55 [(0, cr E x0), (1, .int (x1)), (2, .int (x2)), (3, .int (x3)), (4, .int (x4))] [] := by
  unfold wp_Mo_step_c55 at h
  refine g_iload_n (pc := 55) hX d_Mo_step_55 rfl 2 rfl ?_
  refine g_iconst (pc := 56) (v := 1) hX d_Mo_step_56 (by decide) ?_
  refine g_icmp_ne (pc := 57) (tgt := 118) hX d_Mo_step_57 (by decide) (fun q => ?_) (fun q => ?_)
  · have h := h.1 q
    refine g_sub [0, 1, 2, 3, 4] rfl ?_
    exact k_Mo_step_c118 hX hR hN hQ _ _ _ _ _ _ h
  · have h := h.2 q
    refine g_aload_n (pc := 60) hX d_Mo_step_60 rfl 0 rfl ?_
    refine g_aload_n (pc := 61) hX d_Mo_step_61 rfl 0 rfl ?_
    obtain ⟨f14, h⟩ := h
    refine g_getR (pc := 62) hX fl_Mo_52 rfl f14 d_Mo_step_62 ?_
    refine g_iload_n (pc := 65) hX d_Mo_step_65 rfl 1 rfl ?_
    refine g_iconst (pc := 66) (v := 4) hX d_Mo_step_66 (by decide) ?_
    refine g_imul (pc := 67) hX d_Mo_step_67 ?_
    obtain ⟨f15, h⟩ := h
    obtain ⟨f16, h⟩ := h
    refine g_iaload (pc := 68) hX f15 f16 d_Mo_step_68 ?_
    refine g_callV_D (pc := 69) hX hR f14 cf9 rfl lk_Mo_392 mf_Mo_work (c_Mo_work _ _ _ _ h) rfl rfl rfl ⟨by decide, by decide⟩ (cat_sum _ (Nat.le_of_ble_eq_true rfl)) d_Mo_step_69 (fun r18 A17 h => ?_)
    refine g_dstore (pc := 72) (lv0 := [(4, .int (x4)), (0, cr E x0), (1, .int (x1)), (2, .int (x2)), (3, .int (x3))]) hX d_Mo_step_72 (by rw [hN]; decide) (g_st2b (ks := [4, 0, 1, 2, 3]) rfl rfl rfl rfl rfl) ?_
    refine g_aload_n (pc := 74) hX d_Mo_step_74 rfl 2 rfl ?_
    refine g_getI (pc := 75) hX fl_Mo_94 rfl f14 d_Mo_step_75 ?_
    refine g_if_ne (pc := 78) (tgt := 101) hX d_Mo_step_78 (by decide) (fun q => ?_) (fun q => ?_)
    · have h := h.1 q
      refine g_aload_n (pc := 101) hX d_Mo_step_101 rfl 2 rfl ?_
      refine g_getI (pc := 102) hX fl_Mo_94 rfl f14 d_Mo_step_102 ?_
      refine g_if_ne (pc := 105) (tgt := 118) hX d_Mo_step_105 (by decide) (fun q => ?_) (fun q => ?_)
      · have h := h.1 q
        refine g_sub [2, 3, 4, 5, 1] rfl ?_
        exact k_Mo_step_c118 hX hR hN hQ _ _ _ _ _ _ h
      · have h := h.2 q
        refine g_aload_n (pc := 108) hX d_Mo_step_108 rfl 2 rfl ?_
        refine g_dup (pc := 109) hX d_Mo_step_109 (cr_cat _ _) ?_
        refine g_getI (pc := 110) hX fl_Mo_67 rfl f14 d_Mo_step_110 ?_
        refine g_iconst (pc := 113) (v := 1) hX d_Mo_step_113 (by decide) ?_
        refine g_iadd (pc := 114) hX d_Mo_step_114 ?_
        refine g_putI (pc := 115) hX fl_Mo_67 rfl rfl rfl f14 d_Mo_step_115 ?_
        refine g_sub [2, 3, 4, 5, 1] rfl ?_
        exact k_Mo_step_c118 hX hR hN hQ _ _ _ _ _ _ h
    · have h := h.2 q
      refine g_aload_n (pc := 81) hX d_Mo_step_81 rfl 2 rfl ?_
      refine g_getI (pc := 82) hX fl_Mo_67 rfl f14 d_Mo_step_82 ?_
      refine g_bipush (pc := 85) (v := 40) hX d_Mo_step_85 (by decide) ?_
      refine g_icmp_ge (pc := 87) (tgt := 101) hX d_Mo_step_87 (by decide) (fun q => ?_) (fun q => ?_)
      · have h := h.1 q
        refine g_aload_n (pc := 101) hX d_Mo_step_101 rfl 2 rfl ?_
        refine g_getI (pc := 102) hX fl_Mo_94 rfl f14 d_Mo_step_102 ?_
        refine g_if_ne (pc := 105) (tgt := 118) hX d_Mo_step_105 (by decide) (fun q => ?_) (fun q => ?_)
        · have h := h.1 q
          refine g_sub [2, 3, 4, 5, 1] rfl ?_
          exact k_Mo_step_c118 hX hR hN hQ _ _ _ _ _ _ h
        · have h := h.2 q
          refine g_aload_n (pc := 108) hX d_Mo_step_108 rfl 2 rfl ?_
          refine g_dup (pc := 109) hX d_Mo_step_109 (cr_cat _ _) ?_
          refine g_getI (pc := 110) hX fl_Mo_67 rfl f14 d_Mo_step_110 ?_
          refine g_iconst (pc := 113) (v := 1) hX d_Mo_step_113 (by decide) ?_
          refine g_iadd (pc := 114) hX d_Mo_step_114 ?_
          refine g_putI (pc := 115) hX fl_Mo_67 rfl rfl rfl f14 d_Mo_step_115 ?_
          refine g_sub [2, 3, 4, 5, 1] rfl ?_
          exact k_Mo_step_c118 hX hR hN hQ _ _ _ _ _ _ h
      · have h := h.2 q
        refine g_aload_n (pc := 90) hX d_Mo_step_90 rfl 2 rfl ?_
        refine g_getR (pc := 91) hX fl_Mo_97 rfl f14 d_Mo_step_91 ?_
        refine g_aload_n (pc := 94) hX d_Mo_step_94 rfl 2 rfl ?_
        refine g_getI (pc := 95) hX fl_Mo_67 rfl f14 d_Mo_step_95 ?_
        refine g_dload (pc := 98) hX d_Mo_step_98 0 rfl ?_
        obtain ⟨f19, h⟩ := h
        obtain ⟨f20, h⟩ := h
        refine g_dastore (pc := 100) hX f19 f20 d_Mo_step_100 ?_
        refine g_aload_n (pc := 101) hX d_Mo_step_101 rfl 2 rfl ?_
        refine g_getI (pc := 102) hX fl_Mo_94 rfl f14 d_Mo_step_102 ?_
        refine g_if_ne (pc := 105) (tgt := 118) hX d_Mo_step_105 (by decide) (fun q => ?_) (fun q => ?_)
        · have h := h.1 q
          refine g_sub [2, 3, 4, 5, 1] rfl ?_
          exact k_Mo_step_c118 hX hR hN hQ _ _ _ _ _ _ h
        · have h := h.2 q
          refine g_aload_n (pc := 108) hX d_Mo_step_108 rfl 2 rfl ?_
          refine g_dup (pc := 109) hX d_Mo_step_109 (cr_cat _ _) ?_
          refine g_getI (pc := 110) hX fl_Mo_67 rfl f14 d_Mo_step_110 ?_
          refine g_iconst (pc := 113) (v := 1) hX d_Mo_step_113 (by decide) ?_
          refine g_iadd (pc := 114) hX d_Mo_step_114 ?_
          refine g_putI (pc := 115) hX fl_Mo_67 rfl rfl rfl f14 d_Mo_step_115 ?_
          refine g_sub [2, 3, 4, 5, 1] rfl ?_
          exact k_Mo_step_c118 hX hR hN hQ _ _ _ _ _ _ h
set_option maxRecDepth 100000 in
set_option maxHeartbeats 4000000 in
theorem c_Mo_step (o : Nat) (p1 : Int32) (A : Mem) (K : Int32 → Mem → Prop) (h : wp_Mo_step o p1 A K) : CtI y_Mo_step prog_14_method_74_code 9 7 176 (fun E => [cr E o, .int (p1)]) A K := by
  refine ctI_of "BasicMachineModel" (by decide) rfl (fun E => [(0, cr E o), (1, .int (p1))]) (fun E => by simp [lg_sl, cr_cat, ca_i, ca_l, ca_d]) (fun E => by simp [lv_args, cr_cat, ca_i, ca_l, ca_d]) (fun X E hX hR hN hQ => ?_)
  unfold wp_Mo_step at h
  refine g_aload_n (pc := 0) hX d_Mo_step_0 rfl 0 rfl ?_
  obtain ⟨f1, h⟩ := h
  refine g_getR (pc := 1) hX fl_Mo_46 rfl f1 d_Mo_step_1 ?_
  refine g_iload_n (pc := 4) hX d_Mo_step_4 rfl 1 rfl ?_
  obtain ⟨f2, h⟩ := h
  obtain ⟨f3, h⟩ := h
  refine g_iaload (pc := 5) hX f2 f3 d_Mo_step_5 ?_
  refine g_istore_n (pc := 6) (lv0 := [(1, .int (p1)), (0, cr E o)]) hX d_Mo_step_6 rfl (by rw [hN]; decide) (g_st1b (ks := [1, 0]) rfl rfl rfl rfl) ?_
  refine g_aload_n (pc := 7) hX d_Mo_step_7 rfl 2 rfl ?_
  refine g_getR (pc := 8) hX fl_Mo_49 rfl f1 d_Mo_step_8 ?_
  refine g_iload_n (pc := 11) hX d_Mo_step_11 rfl 1 rfl ?_
  refine g_bipush (pc := 12) (v := 8) hX d_Mo_step_12 (by decide) ?_
  refine g_imul (pc := 14) hX d_Mo_step_14 ?_
  obtain ⟨f4, h⟩ := h
  obtain ⟨f5, h⟩ := h
  refine g_iaload (pc := 15) hX f4 f5 d_Mo_step_15 ?_
  refine g_istore_n (pc := 16) (lv0 := [(2, .int ((gI A (gR A o 11) (Int32.toNatClampNeg p1)))), (1, .int (p1)), (0, cr E o)]) hX d_Mo_step_16 rfl (by rw [hN]; decide) (g_st1b (ks := [0, 1, 2]) rfl rfl rfl rfl) ?_
  refine g_aload_n (pc := 17) hX d_Mo_step_17 rfl 3 rfl ?_
  refine g_aload_n (pc := 18) hX d_Mo_step_18 rfl 3 rfl ?_
  refine g_getR (pc := 19) hX fl_Mo_42 rfl f1 d_Mo_step_19 ?_
  refine g_iload_n (pc := 22) hX d_Mo_step_22 rfl 2 rfl ?_
  obtain ⟨f6, h⟩ := h
  obtain ⟨f7, h⟩ := h
  refine g_iaload (pc := 23) hX f6 f7 d_Mo_step_23 ?_
  refine g_callV_I (pc := 24) hX hR f1 cf9 rfl lk_Mo_389 mf_Mo_nextSlot (c_Mo_nextSlot _ _ _ _ h) rfl rfl rfl ⟨by decide, by decide⟩ (cat_sum _ (Nat.le_of_ble_eq_true rfl)) d_Mo_step_24 (fun r9 A8 h => ?_)
  refine g_istore (pc := 27) (lv0 := [(3, .int ((gI A (gR A o 12) (Int32.toNatClampNeg (p1 * 8))))), (2, .int ((gI A (gR A o 11) (Int32.toNatClampNeg p1)))), (1, .int (p1)), (0, cr E o)]) hX d_Mo_step_27 (by rw [hN]; decide) (g_st1b (ks := [0, 1, 2, 3]) rfl rfl rfl rfl) ?_
  refine g_iload_n (pc := 29) hX d_Mo_step_29 rfl 2 rfl ?_
  refine g_if_eq (pc := 30) (tgt := 39) hX d_Mo_step_30 (by decide) (fun q => ?_) (fun q => ?_)
  · have h := h.1 q
    refine g_aload_n (pc := 39) hX d_Mo_step_39 rfl 4 rfl ?_
    refine g_iload_n (pc := 40) hX d_Mo_step_40 rfl 3 rfl ?_
    refine g_iload_n (pc := 41) hX d_Mo_step_41 rfl 2 rfl ?_
    refine g_bipush (pc := 42) (v := 9) hX d_Mo_step_42 (by decide) ?_
    refine g_icmp_ne (pc := 44) (tgt := 51) hX d_Mo_step_44 (by decide) (fun q => ?_) (fun q => ?_)
    · have h := h.1 q
      refine g_iconst (pc := 51) (v := 0) hX d_Mo_step_51 (by decide) ?_
      refine g_callV_V (pc := 52) hX hR f1 cf9 rfl lk_Mo_413 mf_Mo_assign (c_Mo_assign _ _ _ _ _ h) rfl rfl rfl ⟨by decide, by decide⟩ (cat_sum _ (Nat.le_of_ble_eq_true rfl)) d_Mo_step_52 (fun A10 h => ?_)
      refine g_sub [4, 3, 2, 1, 0] rfl ?_
      exact k_Mo_step_c55 hX hR hN hQ _ _ _ _ _ _ h
    · have h := h.2 q
      refine g_iconst (pc := 47) (v := 1) hX d_Mo_step_47 (by decide) ?_
      refine g_goto (pc := 48) (tgt := 52) hX d_Mo_step_48 (by decide) ?_
      refine g_callV_V (pc := 52) hX hR f1 cf9 rfl lk_Mo_413 mf_Mo_assign (c_Mo_assign _ _ _ _ _ h) rfl rfl rfl ⟨by decide, by decide⟩ (cat_sum _ (Nat.le_of_ble_eq_true rfl)) d_Mo_step_52 (fun A11 h => ?_)
      refine g_sub [4, 3, 2, 1, 0] rfl ?_
      exact k_Mo_step_c55 hX hR hN hQ _ _ _ _ _ _ h
  · have h := h.2 q
    refine g_iload_n (pc := 33) hX d_Mo_step_33 rfl 2 rfl ?_
    refine g_bipush (pc := 34) (v := 9) hX d_Mo_step_34 (by decide) ?_
    refine g_icmp_ne (pc := 36) (tgt := 55) hX d_Mo_step_36 (by decide) (fun q => ?_) (fun q => ?_)
    · have h := h.1 q
      refine g_sub [4, 3, 2, 1, 0] rfl ?_
      exact k_Mo_step_c55 hX hR hN hQ _ _ _ _ _ _ h
    · have h := h.2 q
      refine g_aload_n (pc := 39) hX d_Mo_step_39 rfl 4 rfl ?_
      refine g_iload_n (pc := 40) hX d_Mo_step_40 rfl 3 rfl ?_
      refine g_iload_n (pc := 41) hX d_Mo_step_41 rfl 2 rfl ?_
      refine g_bipush (pc := 42) (v := 9) hX d_Mo_step_42 (by decide) ?_
      refine g_icmp_ne (pc := 44) (tgt := 51) hX d_Mo_step_44 (by decide) (fun q => ?_) (fun q => ?_)
      · have h := h.1 q
        refine g_iconst (pc := 51) (v := 0) hX d_Mo_step_51 (by decide) ?_
        refine g_callV_V (pc := 52) hX hR f1 cf9 rfl lk_Mo_413 mf_Mo_assign (c_Mo_assign _ _ _ _ _ h) rfl rfl rfl ⟨by decide, by decide⟩ (cat_sum _ (Nat.le_of_ble_eq_true rfl)) d_Mo_step_52 (fun A12 h => ?_)
        refine g_sub [4, 3, 2, 1, 0] rfl ?_
        exact k_Mo_step_c55 hX hR hN hQ _ _ _ _ _ _ h
      · have h := h.2 q
        refine g_iconst (pc := 47) (v := 1) hX d_Mo_step_47 (by decide) ?_
        refine g_goto (pc := 48) (tgt := 52) hX d_Mo_step_48 (by decide) ?_
        refine g_callV_V (pc := 52) hX hR f1 cf9 rfl lk_Mo_413 mf_Mo_assign (c_Mo_assign _ _ _ _ _ h) rfl rfl rfl ⟨by decide, by decide⟩ (cat_sum _ (Nat.le_of_ble_eq_true rfl)) d_Mo_step_52 (fun A13 h => ?_)
        refine g_sub [4, 3, 2, 1, 0] rfl ?_
        exact k_Mo_step_c55 hX hR hN hQ _ _ _ _ _ _ h
def wp_Mo_run_c151 (K : Int32 → Mem → Prop) (x0 : Nat) (A : Mem) : Prop := kd x0 = 9 ∧ ((¬ (gI (sI A x0 21 ((gI A x0 20) - (gI A x0 19))) x0 27) = 0 → ∀ A19 : Mem, A19 = (sI (sI A x0 21 ((gI A x0 20) - (gI A x0 19))) x0 26 ((gI (sI A x0 21 ((gI A x0 20) - (gI A x0 19))) x0 26) + 1)) → wp_Mo_refuse x0 (gI A19 x0 27) A19 (fun (r21 : Int32) (A20 : Mem) => K r21 A20)) ∧ ((gI (sI A x0 21 ((gI A x0 20) - (gI A x0 19))) x0 27) = 0 → wp_Mo_fine x0 (gI (sI A x0 21 ((gI A x0 20) - (gI A x0 19))) x0 16) (sI A x0 21 ((gI A x0 20) - (gI A x0 19))) (fun (r23 : Int32) (A22 : Mem) => K r23 A22)))
def wp_Mo_run_c93 (K : Int32 → Mem → Prop) : Nat → Nat → Int32 → Mem → Prop
  | 0, _, _, _ => False
  | n + 1, x0, x1, A => ((x1 < 0 → wp_Mo_run_c151 K x0 A) ∧ (¬ x1 < 0 → kd x0 = 9 ∧ ((¬ (gI A x0 27) = 0 → wp_Mo_run_c151 K x0 A) ∧ ((gI A x0 27) = 0 → ((¬ (gI A x0 16) = 300 → kd (gR (sI A x0 16 ((gI A x0 16) + 1)) x0 10) = 51 ∧ vp_in x1 (al (gR (sI A x0 16 ((gI A x0 16) + 1)) x0 10)) ∧ ∀ A15 : Mem, A15 = (sI (sI A x0 16 ((gI A x0 16) + 1)) x0 17 (gI (sI A x0 16 ((gI A x0 16) + 1)) (gR (sI A x0 16 ((gI A x0 16) + 1)) x0 10) (Int32.toNatClampNeg x1))) → wp_Mo_step x0 x1 A15 (fun (r17 : Int32) (A16 : Mem) => wp_Mo_run_c93 K n x0 r17 A16)) ∧ ((gI A x0 16) = 300 → wp_Mo_run_c93 K n x0 x1 (sI A x0 27 2)))))))
def wp_Mo_run_c23 (K : Int32 → Mem → Prop) : Nat → Nat → Int32 → Mem → Prop
  | 0, _, _, _ => False
  | n + 1, x0, x1, A => ((3 ≤ x1 → kd x0 = 9 ∧ wp_Mo_collect x0 (sI (sI (sI (sI (sI (sI (sI A x0 16 0) x0 17 (-1)) x0 18 0) x0 19 0) x0 22 0) x0 23 0) x0 27 0) (fun (A5 : Mem) => wp_Mo_nextSlot x0 0 A5 (fun (r7 : Int32) (A6 : Mem) => (∃ n9 : Nat, wp_Mo_run_c93 K n9 x0 r7 A6)))) ∧ (¬ 3 ≤ x1 → kd x0 = 9 ∧ wp_Mo_dimension x0 x1 0 0 A (fun (A8 : Mem) => kd (gR A8 x0 37) = 51 ∧ vp_in x1 (al (gR A8 x0 37)) ∧ wp_Mo_run_c23 K n x0 (x1 + 1) (sI A8 (gR A8 x0 37) (Int32.toNatClampNeg x1) (-1)))))
def wp_Mo_run_c2 (K : Int32 → Mem → Prop) : Nat → Nat → Int32 → Mem → Prop
  | 0, _, _, _ => False
  | n + 1, x0, x1, A => ((26 ≤ x1 → (∃ n9 : Nat, wp_Mo_run_c23 K n9 x0 0 A)) ∧ (¬ 26 ≤ x1 → kd x0 = 9 ∧ kd (gR A x0 29) = 53 ∧ vp_in x1 (al (gR A x0 29)) ∧ wp_Mo_run_c2 K n x0 (x1 + 1) (sD A (gR A x0 29) (Int32.toNatClampNeg x1) FP.dconst0)))
def wp_Mo_run (o : Nat) (A : Mem) (K : Int32 → Mem → Prop) : Prop := (∃ n9 : Nat, wp_Mo_run_c2 K n9 o 0 A)
set_option maxRecDepth 100000 in
set_option maxHeartbeats 4000000 in
theorem k_Mo_run_c151 {X : CXT} {E : EVT} {K : Int32 → Mem → Prop} (hX : Gd X E "BasicMachineModel" prog_14_method_75_code) (hR : Rm X 8 204) (hN : xnL X = 2) (hQ : QI X E K) (x0 : Nat) (A : Mem) (h : wp_Mo_run_c151 K x0 A) : G X E A 151 [(0, cr E x0)] [] := by
  unfold wp_Mo_run_c151 at h
  refine g_aload_n (pc := 151) hX d_Mo_run_151 rfl 0 rfl ?_
  refine g_aload_n (pc := 152) hX d_Mo_run_152 rfl 0 rfl ?_
  obtain ⟨f18, h⟩ := h
  refine g_getI (pc := 153) hX fl_Mo_73 rfl f18 d_Mo_run_153 ?_
  refine g_aload_n (pc := 156) hX d_Mo_run_156 rfl 0 rfl ?_
  refine g_getI (pc := 157) hX fl_Mo_70 rfl f18 d_Mo_run_157 ?_
  refine g_isub (pc := 160) hX d_Mo_run_160 ?_
  refine g_putI (pc := 161) hX fl_Mo_76 rfl rfl rfl f18 d_Mo_run_161 ?_
  refine g_aload_n (pc := 164) hX d_Mo_run_164 rfl 0 rfl ?_
  refine g_getI (pc := 165) hX fl_Mo_94 rfl f18 d_Mo_run_165 ?_
  refine g_if_ne (pc := 168) (tgt := 180) hX d_Mo_run_168 (by decide) (fun q => ?_) (fun q => ?_)
  · have h := h.1 q
    refine g_aload_n (pc := 180) hX d_Mo_run_180 rfl 0 rfl ?_
    refine g_dup (pc := 181) hX d_Mo_run_181 (cr_cat _ _) ?_
    refine g_getI (pc := 182) hX fl_Mo_91 rfl f18 d_Mo_run_182 ?_
    refine g_iconst (pc := 185) (v := 1) hX d_Mo_run_185 (by decide) ?_
    refine g_iadd (pc := 186) hX d_Mo_run_186 ?_
    refine g_putI (pc := 187) hX fl_Mo_91 rfl rfl rfl f18 d_Mo_run_187 ?_
    refine g_nm (fun A19 eA19 => ?_)
    have h := h A19 eA19
    refine g_aload_n (pc := 190) hX d_Mo_run_190 rfl 0 rfl ?_
    refine g_aload_n (pc := 191) hX d_Mo_run_191 rfl 0 rfl ?_
    refine g_getI (pc := 192) hX fl_Mo_94 rfl f18 d_Mo_run_192 ?_
    refine g_callV_I (pc := 195) hX hR f18 cf9 rfl lk_Mo_149 mf_Mo_refuse (c_Mo_refuse _ _ _ _ h) rfl rfl rfl ⟨by decide, by decide⟩ (cat_sum _ (Nat.le_of_ble_eq_true rfl)) d_Mo_run_195 (fun r21 A20 h => ?_)
    exact g_iret hX hQ h d_Mo_run_198
  · have h := h.2 q
    refine g_aload_n (pc := 171) hX d_Mo_run_171 rfl 0 rfl ?_
    refine g_aload_n (pc := 172) hX d_Mo_run_172 rfl 0 rfl ?_
    refine g_getI (pc := 173) hX fl_Mo_61 rfl f18 d_Mo_run_173 ?_
    refine g_callV_I (pc := 176) hX hR f18 cf9 rfl lk_Mo_153 mf_Mo_fine (c_Mo_fine _ _ _ _ h) rfl rfl rfl ⟨by decide, by decide⟩ (cat_sum _ (Nat.le_of_ble_eq_true rfl)) d_Mo_run_176 (fun r23 A22 h => ?_)
    exact g_iret hX hQ h d_Mo_run_179
set_option maxRecDepth 100000 in
set_option maxHeartbeats 4000000 in
theorem k_Mo_run_c93 {X : CXT} {E : EVT} {K : Int32 → Mem → Prop} (hX : Gd X E "BasicMachineModel" prog_14_method_75_code) (hR : Rm X 8 204) (hN : xnL X = 2) (hQ : QI X E K) : ∀ (n : Nat) (x0 : Nat) (x1 : Int32) (A : Mem), wp_Mo_run_c93 K n x0 x1 A → G X E A 93 [(0, cr E x0), (1, .int (x1))] [] := by
  intro n
  induction n with
  | zero => intro x0 x1 A h; exact h.elim
  | succ n ih =>
    intro x0 x1 A h
    rw [wp_Mo_run_c93] at h
    refine g_iload_n (pc := 93) hX d_Mo_run_93 rfl 1 rfl ?_
    refine g_if_lt (pc := 94) (tgt := 151) hX d_Mo_run_94 (by decide) (fun q => ?_) (fun q => ?_)
    · have h := h.1 q
      refine g_sub [0] rfl ?_
      exact k_Mo_run_c151 hX hR hN hQ _ _ h
    · have h := h.2 q
      refine g_aload_n (pc := 97) hX d_Mo_run_97 rfl 0 rfl ?_
      obtain ⟨f12, h⟩ := h
      refine g_getI (pc := 98) hX fl_Mo_94 rfl f12 d_Mo_run_98 ?_
      refine g_if_ne (pc := 101) (tgt := 151) hX d_Mo_run_101 (by decide) (fun q => ?_) (fun q => ?_)
      · have h := h.1 q
        refine g_sub [0] rfl ?_
        exact k_Mo_run_c151 hX hR hN hQ _ _ h
      · have h := h.2 q
        refine g_aload_n (pc := 104) hX d_Mo_run_104 rfl 0 rfl ?_
        refine g_getI (pc := 105) hX fl_Mo_61 rfl f12 d_Mo_run_105 ?_
        refine g_sipush (pc := 108) (v := 300) hX d_Mo_run_108 (by decide) ?_
        refine g_icmp_ne (pc := 111) (tgt := 122) hX d_Mo_run_111 (by decide) (fun q => ?_) (fun q => ?_)
        · have h := h.1 q
          refine g_aload_n (pc := 122) hX d_Mo_run_122 rfl 0 rfl ?_
          refine g_dup (pc := 123) hX d_Mo_run_123 (cr_cat _ _) ?_
          refine g_getI (pc := 124) hX fl_Mo_61 rfl f12 d_Mo_run_124 ?_
          refine g_iconst (pc := 127) (v := 1) hX d_Mo_run_127 (by decide) ?_
          refine g_iadd (pc := 128) hX d_Mo_run_128 ?_
          refine g_putI (pc := 129) hX fl_Mo_61 rfl rfl rfl f12 d_Mo_run_129 ?_
          refine g_aload_n (pc := 132) hX d_Mo_run_132 rfl 0 rfl ?_
          refine g_aload_n (pc := 133) hX d_Mo_run_133 rfl 0 rfl ?_
          refine g_getR (pc := 134) hX fl_Mo_42 rfl f12 d_Mo_run_134 ?_
          refine g_iload_n (pc := 137) hX d_Mo_run_137 rfl 1 rfl ?_
          obtain ⟨f13, h⟩ := h
          obtain ⟨f14, h⟩ := h
          refine g_iaload (pc := 138) hX f13 f14 d_Mo_run_138 ?_
          refine g_putI (pc := 139) hX fl_Mo_64 rfl rfl rfl f12 d_Mo_run_139 ?_
          refine g_nm (fun A15 eA15 => ?_)
          have h := h A15 eA15
          refine g_aload_n (pc := 142) hX d_Mo_run_142 rfl 0 rfl ?_
          refine g_iload_n (pc := 143) hX d_Mo_run_143 rfl 1 rfl ?_
          refine g_callV_I (pc := 144) hX hR f12 cf9 rfl lk_Mo_443 mf_Mo_step (c_Mo_step _ _ _ _ h) rfl rfl rfl ⟨by decide, by decide⟩ (cat_sum _ (Nat.le_of_ble_eq_true rfl)) d_Mo_run_144 (fun r17 A16 h => ?_)
          refine g_istore_n (pc := 147) (lv0 := [(0, cr E x0)]) hX d_Mo_run_147 rfl (by rw [hN]; decide) (g_st1b (ks := [0]) rfl (cr_cat _ _) rfl rfl) ?_
          refine g_goto (pc := 148) (tgt := 93) hX d_Mo_run_148 (by decide) ?_
          refine g_sub [1, 0] rfl ?_
          exact ih _ _ _ h
        · have h := h.2 q
          refine g_aload_n (pc := 114) hX d_Mo_run_114 rfl 0 rfl ?_
          refine g_iconst (pc := 115) (v := 2) hX d_Mo_run_115 (by decide) ?_
          refine g_putI (pc := 116) hX fl_Mo_94 rfl rfl rfl f12 d_Mo_run_116 ?_
          refine g_goto (pc := 119) (tgt := 93) hX d_Mo_run_119 (by decide) ?_
          refine g_sub [0, 1] rfl ?_
          exact ih _ _ _ h
set_option maxRecDepth 100000 in
set_option maxHeartbeats 4000000 in
theorem k_Mo_run_c23 {X : CXT} {E : EVT} {K : Int32 → Mem → Prop} (hX : Gd X E "BasicMachineModel" prog_14_method_75_code) (hR : Rm X 8 204) (hN : xnL X = 2) (hQ : QI X E K) : ∀ (n : Nat) (x0 : Nat) (x1 : Int32) (A : Mem), wp_Mo_run_c23 K n x0 x1 A → G X E A 23 [(0, cr E x0), (1, .int (x1))] [] := by
  intro n
  induction n with
  | zero => intro x0 x1 A h; exact h.elim
  | succ n ih =>
    intro x0 x1 A h
    rw [wp_Mo_run_c23] at h
    refine g_iload_n (pc := 23) hX d_Mo_run_23 rfl 1 rfl ?_
    refine g_iconst (pc := 24) (v := 3) hX d_Mo_run_24 (by decide) ?_
    refine g_icmp_ge (pc := 25) (tgt := 48) hX d_Mo_run_25 (by decide) (fun q => ?_) (fun q => ?_)
    · have h := h.1 q
      refine g_aload_n (pc := 48) hX d_Mo_run_48 rfl 0 rfl ?_
      refine g_iconst (pc := 49) (v := 0) hX d_Mo_run_49 (by decide) ?_
      obtain ⟨f4, h⟩ := h
      refine g_putI (pc := 50) hX fl_Mo_61 rfl rfl rfl f4 d_Mo_run_50 ?_
      refine g_aload_n (pc := 53) hX d_Mo_run_53 rfl 0 rfl ?_
      refine g_iconst (pc := 54) (v := (-1)) hX d_Mo_run_54 (by decide) ?_
      refine g_putI (pc := 55) hX fl_Mo_64 rfl rfl rfl f4 d_Mo_run_55 ?_
      refine g_aload_n (pc := 58) hX d_Mo_run_58 rfl 0 rfl ?_
      refine g_iconst (pc := 59) (v := 0) hX d_Mo_run_59 (by decide) ?_
      refine g_putI (pc := 60) hX fl_Mo_67 rfl rfl rfl f4 d_Mo_run_60 ?_
      refine g_aload_n (pc := 63) hX d_Mo_run_63 rfl 0 rfl ?_
      refine g_iconst (pc := 64) (v := 0) hX d_Mo_run_64 (by decide) ?_
      refine g_putI (pc := 65) hX fl_Mo_70 rfl rfl rfl f4 d_Mo_run_65 ?_
      refine g_aload_n (pc := 68) hX d_Mo_run_68 rfl 0 rfl ?_
      refine g_iconst (pc := 69) (v := 0) hX d_Mo_run_69 (by decide) ?_
      refine g_putI (pc := 70) hX fl_Mo_79 rfl rfl rfl f4 d_Mo_run_70 ?_
      refine g_aload_n (pc := 73) hX d_Mo_run_73 rfl 0 rfl ?_
      refine g_iconst (pc := 74) (v := 0) hX d_Mo_run_74 (by decide) ?_
      refine g_putI (pc := 75) hX fl_Mo_82 rfl rfl rfl f4 d_Mo_run_75 ?_
      refine g_aload_n (pc := 78) hX d_Mo_run_78 rfl 0 rfl ?_
      refine g_iconst (pc := 79) (v := 0) hX d_Mo_run_79 (by decide) ?_
      refine g_putI (pc := 80) hX fl_Mo_94 rfl rfl rfl f4 d_Mo_run_80 ?_
      refine g_aload_n (pc := 83) hX d_Mo_run_83 rfl 0 rfl ?_
      refine g_callV_V (pc := 84) hX hR f4 cf9 rfl lk_Mo_440 mf_Mo_collect (c_Mo_collect _ _ _ h) rfl rfl rfl ⟨by decide, by decide⟩ (cat_sum _ (Nat.le_of_ble_eq_true rfl)) d_Mo_run_84 (fun A5 h => ?_)
      refine g_aload_n (pc := 87) hX d_Mo_run_87 rfl 0 rfl ?_
      refine g_iconst (pc := 88) (v := 0) hX d_Mo_run_88 (by decide) ?_
      refine g_callV_I (pc := 89) hX hR f4 cf9 rfl lk_Mo_389 mf_Mo_nextSlot (c_Mo_nextSlot _ _ _ _ h) rfl rfl rfl ⟨by decide, by decide⟩ (cat_sum _ (Nat.le_of_ble_eq_true rfl)) d_Mo_run_89 (fun r7 A6 h => ?_)
      refine g_istore_n (pc := 92) (lv0 := [(0, cr E x0)]) hX d_Mo_run_92 rfl (by rw [hN]; decide) (g_st1b (ks := [0]) rfl (cr_cat _ _) rfl rfl) ?_
      refine g_sub [1, 0] rfl ?_
      obtain ⟨n9, h⟩ := h
      exact k_Mo_run_c93 hX hR hN hQ n9 _ _ _ h
    · have h := h.2 q
      refine g_aload_n (pc := 28) hX d_Mo_run_28 rfl 0 rfl ?_
      refine g_iload_n (pc := 29) hX d_Mo_run_29 rfl 1 rfl ?_
      refine g_iconst (pc := 30) (v := 0) hX d_Mo_run_30 (by decide) ?_
      refine g_iconst (pc := 31) (v := 0) hX d_Mo_run_31 (by decide) ?_
      obtain ⟨f9, h⟩ := h
      refine g_callV_V (pc := 32) hX hR f9 cf9 rfl lk_Mo_433 mf_Mo_dimension (c_Mo_dimension _ _ _ _ _ _ h) rfl rfl rfl ⟨by decide, by decide⟩ (cat_sum _ (Nat.le_of_ble_eq_true rfl)) d_Mo_run_32 (fun A8 h => ?_)
      refine g_aload_n (pc := 35) hX d_Mo_run_35 rfl 0 rfl ?_
      refine g_getR (pc := 36) hX fl_Mo_125 rfl f9 d_Mo_run_36 ?_
      refine g_iload_n (pc := 39) hX d_Mo_run_39 rfl 1 rfl ?_
      refine g_iconst (pc := 40) (v := (-1)) hX d_Mo_run_40 (by decide) ?_
      obtain ⟨f10, h⟩ := h
      obtain ⟨f11, h⟩ := h
      refine g_iastore (pc := 41) hX f10 f11 d_Mo_run_41 ?_
      refine g_iinc (pc := 42) (v := (x1 + 1)) (lv0 := [(0, cr E x0)]) hX d_Mo_run_42 1 rfl rfl (by rw [hN]; decide) (g_st1b (ks := [0]) rfl (cr_cat _ _) rfl rfl) ?_
      refine g_goto (pc := 45) (tgt := 23) hX d_Mo_run_45 (by decide) ?_
      refine g_sub [1, 0] rfl ?_
      exact ih _ _ _ h
set_option maxRecDepth 100000 in
set_option maxHeartbeats 4000000 in
theorem k_Mo_run_c2 {X : CXT} {E : EVT} {K : Int32 → Mem → Prop} (hX : Gd X E "BasicMachineModel" prog_14_method_75_code) (hR : Rm X 8 204) (hN : xnL X = 2) (hQ : QI X E K) : ∀ (n : Nat) (x0 : Nat) (x1 : Int32) (A : Mem), wp_Mo_run_c2 K n x0 x1 A → G X E A 2 [(0, cr E x0), (1, .int (x1))] [] := by
  intro n
  induction n with
  | zero => intro x0 x1 A h; exact h.elim
  | succ n ih =>
    intro x0 x1 A h
    rw [wp_Mo_run_c2] at h
    refine g_iload_n (pc := 2) hX d_Mo_run_2 rfl 1 rfl ?_
    refine g_bipush (pc := 3) (v := 26) hX d_Mo_run_3 (by decide) ?_
    refine g_icmp_ge (pc := 5) (tgt := 21) hX d_Mo_run_5 (by decide) (fun q => ?_) (fun q => ?_)
    · have h := h.1 q
      refine g_iconst (pc := 21) (v := 0) hX d_Mo_run_21 (by decide) ?_
      refine g_istore_n (pc := 22) (lv0 := [(0, cr E x0)]) hX d_Mo_run_22 rfl (by rw [hN]; decide) (g_st1b (ks := [0]) rfl (cr_cat _ _) rfl rfl) ?_
      refine g_sub [1, 0] rfl ?_
      obtain ⟨n9, h⟩ := h
      exact k_Mo_run_c23 hX hR hN hQ n9 _ _ _ h
    · have h := h.2 q
      refine g_aload_n (pc := 8) hX d_Mo_run_8 rfl 0 rfl ?_
      obtain ⟨f1, h⟩ := h
      refine g_getR (pc := 9) hX fl_Mo_101 rfl f1 d_Mo_run_9 ?_
      refine g_iload_n (pc := 12) hX d_Mo_run_12 rfl 1 rfl ?_
      refine g_dconst0 (pc := 13) hX d_Mo_run_13 ?_
      obtain ⟨f2, h⟩ := h
      obtain ⟨f3, h⟩ := h
      refine g_dastore (pc := 14) hX f2 f3 d_Mo_run_14 ?_
      refine g_iinc (pc := 15) (v := (x1 + 1)) (lv0 := [(0, cr E x0)]) hX d_Mo_run_15 1 rfl rfl (by rw [hN]; decide) (g_st1b (ks := [0]) rfl (cr_cat _ _) rfl rfl) ?_
      refine g_goto (pc := 18) (tgt := 2) hX d_Mo_run_18 (by decide) ?_
      refine g_sub [1, 0] rfl ?_
      exact ih _ _ _ h
set_option maxRecDepth 100000 in
set_option maxHeartbeats 4000000 in
theorem c_Mo_run (o : Nat) (A : Mem) (K : Int32 → Mem → Prop) (h : wp_Mo_run o A K) : CtI y_Mo_run prog_14_method_75_code 2 8 204 (fun E => [cr E o]) A K := by
  refine ctI_of "BasicMachineModel" (by decide) rfl (fun E => [(0, cr E o)]) (fun E => by simp [lg_sl, cr_cat, ca_i, ca_l, ca_d]) (fun E => by simp [lv_args, cr_cat, ca_i, ca_l, ca_d]) (fun X E hX hR hN hQ => ?_)
  unfold wp_Mo_run at h
  refine g_iconst (pc := 0) (v := 0) hX d_Mo_run_0 (by decide) ?_
  refine g_istore_n (pc := 1) (lv0 := [(0, cr E o)]) hX d_Mo_run_1 rfl (by rw [hN]; decide) (g_st1b (ks := [0]) rfl (cr_cat _ _) rfl rfl) ?_
  refine g_sub [1, 0] rfl ?_
  obtain ⟨n9, h⟩ := h
  exact k_Mo_run_c2 hX hR hN hQ n9 _ _ _ h
def wp_Mo_printed (o : Nat) (p1 : Int32) (A : Mem) (K : UInt64 → Mem → Prop) : Prop := ((p1 < 0 → kd o = 9 ∧ K FP.dconst0 (sI A o 0 1)) ∧ (¬ p1 < 0 → kd o = 9 ∧ (((gI A o 18) ≤ p1 → K FP.dconst0 (sI A o 0 1)) ∧ (¬ (gI A o 18) ≤ p1 → ((p1 ≤ 39 → kd (gR (sI A o 0 0) o 28) = 53 ∧ vp_in p1 (al (gR (sI A o 0 0) o 28)) ∧ K (gD (sI A o 0 0) (gR (sI A o 0 0) o 28) (Int32.toNatClampNeg p1)) (sI A o 0 0)) ∧ (¬ p1 ≤ 39 → K FP.dconst0 (sI A o 0 1)))))))
set_option maxRecDepth 100000 in
set_option maxHeartbeats 4000000 in
theorem c_Mo_printed (o : Nat) (p1 : Int32) (A : Mem) (K : UInt64 → Mem → Prop) (h : wp_Mo_printed o p1 A K) : CtD y_Mo_printed prog_14_method_76_code 2 0 0 (fun E => [cr E o, .int (p1)]) A K := by
  refine ctD_of "BasicMachineModel" (by decide) rfl (fun E => [(0, cr E o), (1, .int (p1))]) (fun E => by simp [lg_sl, cr_cat, ca_i, ca_l, ca_d]) (fun E => by simp [lv_args, cr_cat, ca_i, ca_l, ca_d]) (fun X E hX hR hN hQ => ?_)
  unfold wp_Mo_printed at h
  refine g_iload_n (pc := 0) hX d_Mo_printed_0 rfl 1 rfl ?_
  refine g_if_lt (pc := 1) (tgt := 18) hX d_Mo_printed_1 (by decide) (fun q => ?_) (fun q => ?_)
  · have h := h.1 q
    refine g_aload_n (pc := 18) hX d_Mo_printed_18 rfl 0 rfl ?_
    refine g_iconst (pc := 19) (v := 1) hX d_Mo_printed_19 (by decide) ?_
    obtain ⟨f1, h⟩ := h
    refine g_putI (pc := 20) hX fl_Mo_7 rfl rfl rfl f1 d_Mo_printed_20 ?_
    refine g_dconst0 (pc := 23) hX d_Mo_printed_23 ?_
    exact g_dret hX hQ h d_Mo_printed_24
  · have h := h.2 q
    refine g_iload_n (pc := 4) hX d_Mo_printed_4 rfl 1 rfl ?_
    refine g_aload_n (pc := 5) hX d_Mo_printed_5 rfl 0 rfl ?_
    obtain ⟨f2, h⟩ := h
    refine g_getI (pc := 6) hX fl_Mo_67 rfl f2 d_Mo_printed_6 ?_
    refine g_icmp_ge (pc := 9) (tgt := 18) hX d_Mo_printed_9 (by decide) (fun q => ?_) (fun q => ?_)
    · have h := h.1 q
      refine g_aload_n (pc := 18) hX d_Mo_printed_18 rfl 0 rfl ?_
      refine g_iconst (pc := 19) (v := 1) hX d_Mo_printed_19 (by decide) ?_
      refine g_putI (pc := 20) hX fl_Mo_7 rfl rfl rfl f2 d_Mo_printed_20 ?_
      refine g_dconst0 (pc := 23) hX d_Mo_printed_23 ?_
      exact g_dret hX hQ h d_Mo_printed_24
    · have h := h.2 q
      refine g_iload_n (pc := 12) hX d_Mo_printed_12 rfl 1 rfl ?_
      refine g_bipush (pc := 13) (v := 39) hX d_Mo_printed_13 (by decide) ?_
      refine g_icmp_le (pc := 15) (tgt := 25) hX d_Mo_printed_15 (by decide) (fun q => ?_) (fun q => ?_)
      · have h := h.1 q
        refine g_aload_n (pc := 25) hX d_Mo_printed_25 rfl 0 rfl ?_
        refine g_iconst (pc := 26) (v := 0) hX d_Mo_printed_26 (by decide) ?_
        refine g_putI (pc := 27) hX fl_Mo_7 rfl rfl rfl f2 d_Mo_printed_27 ?_
        refine g_aload_n (pc := 30) hX d_Mo_printed_30 rfl 0 rfl ?_
        refine g_getR (pc := 31) hX fl_Mo_97 rfl f2 d_Mo_printed_31 ?_
        refine g_iload_n (pc := 34) hX d_Mo_printed_34 rfl 1 rfl ?_
        obtain ⟨f3, h⟩ := h
        obtain ⟨f4, h⟩ := h
        refine g_daload (pc := 35) hX f3 f4 d_Mo_printed_35 ?_
        exact g_dret hX hQ h d_Mo_printed_36
      · have h := h.2 q
        refine g_aload_n (pc := 18) hX d_Mo_printed_18 rfl 0 rfl ?_
        refine g_iconst (pc := 19) (v := 1) hX d_Mo_printed_19 (by decide) ?_
        refine g_putI (pc := 20) hX fl_Mo_7 rfl rfl rfl f2 d_Mo_printed_20 ?_
        refine g_dconst0 (pc := 23) hX d_Mo_printed_23 ?_
        exact g_dret hX hQ h d_Mo_printed_24
def wp_Mo_variable1 (o : Nat) (p1 : Int32) (A : Mem) (K : UInt64 → Mem → Prop) : Prop := ((p1 < 0 → kd o = 9 ∧ K FP.dconst0 (sI A o 0 1)) ∧ (¬ p1 < 0 → ((25 < p1 → kd o = 9 ∧ K FP.dconst0 (sI A o 0 1)) ∧ (¬ 25 < p1 → kd o = 9 ∧ wp_Mo_isMatrix o (65 + p1) A (fun (r4 : Bool) (A3 : Mem) => ((r4 = false → kd (gR (sI A3 o 0 0) o 29) = 53 ∧ vp_in p1 (al (gR (sI A3 o 0 0) o 29)) ∧ K (gD (sI A3 o 0 0) (gR (sI A3 o 0 0) o 29) (Int32.toNatClampNeg p1)) (sI A3 o 0 0)) ∧ (r4 = true → K FP.dconst0 (sI A3 o 0 1))))))))
set_option maxRecDepth 100000 in
set_option maxHeartbeats 4000000 in
theorem c_Mo_variable1 (o : Nat) (p1 : Int32) (A : Mem) (K : UInt64 → Mem → Prop) (h : wp_Mo_variable1 o p1 A K) : CtD y_Mo_variable1 prog_14_method_77_code 2 1 21 (fun E => [cr E o, .int (p1)]) A K := by
  refine ctD_of "BasicMachineModel" (by decide) rfl (fun E => [(0, cr E o), (1, .int (p1))]) (fun E => by simp [lg_sl, cr_cat, ca_i, ca_l, ca_d]) (fun E => by simp [lv_args, cr_cat, ca_i, ca_l, ca_d]) (fun X E hX hR hN hQ => ?_)
  unfold wp_Mo_variable1 at h
  refine g_iload_n (pc := 0) hX d_Mo_variable1_0 rfl 1 rfl ?_
  refine g_if_lt (pc := 1) (tgt := 21) hX d_Mo_variable1_1 (by decide) (fun q => ?_) (fun q => ?_)
  · have h := h.1 q
    refine g_aload_n (pc := 21) hX d_Mo_variable1_21 rfl 0 rfl ?_
    refine g_iconst (pc := 22) (v := 1) hX d_Mo_variable1_22 (by decide) ?_
    obtain ⟨f1, h⟩ := h
    refine g_putI (pc := 23) hX fl_Mo_7 rfl rfl rfl f1 d_Mo_variable1_23 ?_
    refine g_dconst0 (pc := 26) hX d_Mo_variable1_26 ?_
    exact g_dret hX hQ h d_Mo_variable1_27
  · have h := h.2 q
    refine g_iload_n (pc := 4) hX d_Mo_variable1_4 rfl 1 rfl ?_
    refine g_bipush (pc := 5) (v := 25) hX d_Mo_variable1_5 (by decide) ?_
    refine g_icmp_gt (pc := 7) (tgt := 21) hX d_Mo_variable1_7 (by decide) (fun q => ?_) (fun q => ?_)
    · have h := h.1 q
      refine g_aload_n (pc := 21) hX d_Mo_variable1_21 rfl 0 rfl ?_
      refine g_iconst (pc := 22) (v := 1) hX d_Mo_variable1_22 (by decide) ?_
      obtain ⟨f2, h⟩ := h
      refine g_putI (pc := 23) hX fl_Mo_7 rfl rfl rfl f2 d_Mo_variable1_23 ?_
      refine g_dconst0 (pc := 26) hX d_Mo_variable1_26 ?_
      exact g_dret hX hQ h d_Mo_variable1_27
    · have h := h.2 q
      refine g_aload_n (pc := 10) hX d_Mo_variable1_10 rfl 0 rfl ?_
      refine g_bipush (pc := 11) (v := 65) hX d_Mo_variable1_11 (by decide) ?_
      refine g_iload_n (pc := 13) hX d_Mo_variable1_13 rfl 1 rfl ?_
      refine g_iadd (pc := 14) hX d_Mo_variable1_14 ?_
      obtain ⟨f5, h⟩ := h
      refine g_callV_Z (pc := 15) hX hR f5 cf9 rfl lk_Mo_241 mf_Mo_isMatrix (c_Mo_isMatrix _ _ _ _ h) rfl rfl rfl ⟨by decide, by decide⟩ (cat_sum _ (Nat.le_of_ble_eq_true rfl)) d_Mo_variable1_15 (fun r4 A3 h => ?_)
      refine g_ifB_eq (pc := 18) (tgt := 28) hX d_Mo_variable1_18 (by decide) (fun q => ?_) (fun q => ?_)
      · have h := h.1 q
        refine g_aload_n (pc := 28) hX d_Mo_variable1_28 rfl 0 rfl ?_
        refine g_iconst (pc := 29) (v := 0) hX d_Mo_variable1_29 (by decide) ?_
        refine g_putI (pc := 30) hX fl_Mo_7 rfl rfl rfl f5 d_Mo_variable1_30 ?_
        refine g_aload_n (pc := 33) hX d_Mo_variable1_33 rfl 0 rfl ?_
        refine g_getR (pc := 34) hX fl_Mo_101 rfl f5 d_Mo_variable1_34 ?_
        refine g_iload_n (pc := 37) hX d_Mo_variable1_37 rfl 1 rfl ?_
        obtain ⟨f6, h⟩ := h
        obtain ⟨f7, h⟩ := h
        refine g_daload (pc := 38) hX f6 f7 d_Mo_variable1_38 ?_
        exact g_dret hX hQ h d_Mo_variable1_39
      · have h := h.2 q
        refine g_aload_n (pc := 21) hX d_Mo_variable1_21 rfl 0 rfl ?_
        refine g_iconst (pc := 22) (v := 1) hX d_Mo_variable1_22 (by decide) ?_
        refine g_putI (pc := 23) hX fl_Mo_7 rfl rfl rfl f5 d_Mo_variable1_23 ?_
        refine g_dconst0 (pc := 26) hX d_Mo_variable1_26 ?_
        exact g_dret hX hQ h d_Mo_variable1_27
def wp_Mo_element_c49 (K : UInt64 → Mem → Prop) (x0 : Nat) (x1 : Int32) (x2 : Int32) (x3 : Int32) (s0 : Int32) (s1 : Nat) (A : Mem) : Prop := kd s1 = 9 ∧ kd x0 = 9 ∧ ((¬ (gI (sI A s1 0 s0) x0 0) = 0 → K FP.dconst0 (sI A s1 0 s0)) ∧ ((gI (sI A s1 0 s0) x0 0) = 0 → kd (gR (sI A s1 0 s0) x0 35) = 53 ∧ vp_in ((((x1 * 36) + ((x2 - 1) * 6)) + x3) - 1) (al (gR (sI A s1 0 s0) x0 35)) ∧ K (gD (sI A s1 0 s0) (gR (sI A s1 0 s0) x0 35) (Int32.toNatClampNeg ((((x1 * 36) + ((x2 - 1) * 6)) + x3) - 1))) (sI A s1 0 s0)))
def wp_Mo_element (o : Nat) (p1 : Int32) (p2 : Int32) (p3 : Int32) (A : Mem) (K : UInt64 → Mem → Prop) : Prop := ((p1 < 0 → wp_Mo_element_c49 K o p1 p2 p3 1 o A) ∧ (¬ p1 < 0 → ((p1 ≤ 2 → ((p2 < 1 → wp_Mo_element_c49 K o p1 p2 p3 2 o A) ∧ (¬ p2 < 1 → kd o = 9 ∧ kd (gR A o 38) = 51 ∧ vp_in p1 (al (gR A o 38)) ∧ (((gI A (gR A o 38) (Int32.toNatClampNeg p1)) < p2 → wp_Mo_element_c49 K o p1 p2 p3 2 o A) ∧ (¬ (gI A (gR A o 38) (Int32.toNatClampNeg p1)) < p2 → ((p3 < 1 → wp_Mo_element_c49 K o p1 p2 p3 2 o A) ∧ (¬ p3 < 1 → kd (gR A o 39) = 51 ∧ vp_in p1 (al (gR A o 39)) ∧ ((p3 ≤ (gI A (gR A o 39) (Int32.toNatClampNeg p1)) → wp_Mo_element_c49 K o p1 p2 p3 0 o A) ∧ (¬ p3 ≤ (gI A (gR A o 39) (Int32.toNatClampNeg p1)) → wp_Mo_element_c49 K o p1 p2 p3 2 o A))))))))) ∧ (¬ p1 ≤ 2 → wp_Mo_element_c49 K o p1 p2 p3 1 o A))))
set_option maxRecDepth 100000 in
set_option maxHeartbeats 4000000 in
theorem k_Mo_element_c49 {X : CXT} {E : EVT} {K : UInt64 → Mem → Prop} (hX : Gd X E "BasicMachineModel" prog_14_method_78_code) (hR : Rm X 0 0) (hN : xnL X = 4) (hQ : QD X E K) (x0 : Nat) (x1 : Int32) (x2 : Int32) (x3 : Int32) (s0 : Int32) (s1 : Nat) (A : Mem) (h : wp_Mo_element_c49 K x0 x1 x2 x3 s0 s1 A) : G X E A 49 [(0, cr E x0), (1, .int (x1)), (2, .int (x2)), (3, .int (x3))] [.int (s0), cr E s1] := by
  unfold wp_Mo_element_c49 at h
  obtain ⟨f6, h⟩ := h
  refine g_putI (pc := 49) hX fl_Mo_7 rfl rfl rfl f6 d_Mo_element_49 ?_
  refine g_aload_n (pc := 52) hX d_Mo_element_52 rfl 0 rfl ?_
  obtain ⟨f7, h⟩ := h
  refine g_getI (pc := 53) hX fl_Mo_7 rfl f7 d_Mo_element_53 ?_
  refine g_if_ne (pc := 56) (tgt := 82) hX d_Mo_element_56 (by decide) (fun q => ?_) (fun q => ?_)
  · have h := h.1 q
    refine g_dconst0 (pc := 82) hX d_Mo_element_82 ?_
    exact g_dret hX hQ h d_Mo_element_83
  · have h := h.2 q
    refine g_aload_n (pc := 59) hX d_Mo_element_59 rfl 0 rfl ?_
    refine g_getR (pc := 60) hX fl_Mo_119 rfl f7 d_Mo_element_60 ?_
    refine g_iload_n (pc := 63) hX d_Mo_element_63 rfl 1 rfl ?_
    refine g_bipush (pc := 64) (v := 36) hX d_Mo_element_64 (by decide) ?_
    refine g_imul (pc := 66) hX d_Mo_element_66 ?_
    refine g_iload_n (pc := 67) hX d_Mo_element_67 rfl 2 rfl ?_
    refine g_iconst (pc := 68) (v := 1) hX d_Mo_element_68 (by decide) ?_
    refine g_isub (pc := 69) hX d_Mo_element_69 ?_
    refine g_bipush (pc := 70) (v := 6) hX d_Mo_element_70 (by decide) ?_
    refine g_imul (pc := 72) hX d_Mo_element_72 ?_
    refine g_iadd (pc := 73) hX d_Mo_element_73 ?_
    refine g_iload_n (pc := 74) hX d_Mo_element_74 rfl 3 rfl ?_
    refine g_iadd (pc := 75) hX d_Mo_element_75 ?_
    refine g_iconst (pc := 76) (v := 1) hX d_Mo_element_76 (by decide) ?_
    refine g_isub (pc := 77) hX d_Mo_element_77 ?_
    obtain ⟨f8, h⟩ := h
    obtain ⟨f9, h⟩ := h
    refine g_daload (pc := 78) hX f8 f9 d_Mo_element_78 ?_
    refine g_goto (pc := 79) (tgt := 83) hX d_Mo_element_79 (by decide) ?_
    exact g_dret hX hQ h d_Mo_element_83
set_option maxRecDepth 100000 in
set_option maxHeartbeats 4000000 in
theorem c_Mo_element (o : Nat) (p1 : Int32) (p2 : Int32) (p3 : Int32) (A : Mem) (K : UInt64 → Mem → Prop) (h : wp_Mo_element o p1 p2 p3 A K) : CtD y_Mo_element prog_14_method_78_code 4 0 0 (fun E => [cr E o, .int (p1), .int (p2), .int (p3)]) A K := by
  refine ctD_of "BasicMachineModel" (by decide) rfl (fun E => [(0, cr E o), (1, .int (p1)), (2, .int (p2)), (3, .int (p3))]) (fun E => by simp [lg_sl, cr_cat, ca_i, ca_l, ca_d]) (fun E => by simp [lv_args, cr_cat, ca_i, ca_l, ca_d]) (fun X E hX hR hN hQ => ?_)
  unfold wp_Mo_element at h
  refine g_aload_n (pc := 0) hX d_Mo_element_0 rfl 0 rfl ?_
  refine g_iload_n (pc := 1) hX d_Mo_element_1 rfl 1 rfl ?_
  refine g_if_lt (pc := 2) (tgt := 10) hX d_Mo_element_2 (by decide) (fun q => ?_) (fun q => ?_)
  · have h := h.1 q
    refine g_iconst (pc := 10) (v := 1) hX d_Mo_element_10 (by decide) ?_
    refine g_goto (pc := 11) (tgt := 49) hX d_Mo_element_11 (by decide) ?_
    refine g_sub [0, 1, 2, 3] rfl ?_
    exact k_Mo_element_c49 hX hR hN hQ _ _ _ _ _ _ _ h
  · have h := h.2 q
    refine g_iload_n (pc := 5) hX d_Mo_element_5 rfl 1 rfl ?_
    refine g_iconst (pc := 6) (v := 2) hX d_Mo_element_6 (by decide) ?_
    refine g_icmp_le (pc := 7) (tgt := 14) hX d_Mo_element_7 (by decide) (fun q => ?_) (fun q => ?_)
    · have h := h.1 q
      refine g_iload_n (pc := 14) hX d_Mo_element_14 rfl 2 rfl ?_
      refine g_iconst (pc := 15) (v := 1) hX d_Mo_element_15 (by decide) ?_
      refine g_icmp_lt (pc := 16) (tgt := 44) hX d_Mo_element_16 (by decide) (fun q => ?_) (fun q => ?_)
      · have h := h.1 q
        refine g_iconst (pc := 44) (v := 2) hX d_Mo_element_44 (by decide) ?_
        refine g_goto (pc := 45) (tgt := 49) hX d_Mo_element_45 (by decide) ?_
        refine g_sub [0, 1, 2, 3] rfl ?_
        exact k_Mo_element_c49 hX hR hN hQ _ _ _ _ _ _ _ h
      · have h := h.2 q
        refine g_iload_n (pc := 19) hX d_Mo_element_19 rfl 2 rfl ?_
        refine g_aload_n (pc := 20) hX d_Mo_element_20 rfl 0 rfl ?_
        obtain ⟨f1, h⟩ := h
        refine g_getR (pc := 21) hX fl_Mo_128 rfl f1 d_Mo_element_21 ?_
        refine g_iload_n (pc := 24) hX d_Mo_element_24 rfl 1 rfl ?_
        obtain ⟨f2, h⟩ := h
        obtain ⟨f3, h⟩ := h
        refine g_iaload (pc := 25) hX f2 f3 d_Mo_element_25 ?_
        refine g_icmp_gt (pc := 26) (tgt := 44) hX d_Mo_element_26 (by decide) (fun q => ?_) (fun q => ?_)
        · have h := h.1 q
          refine g_iconst (pc := 44) (v := 2) hX d_Mo_element_44 (by decide) ?_
          refine g_goto (pc := 45) (tgt := 49) hX d_Mo_element_45 (by decide) ?_
          refine g_sub [0, 1, 2, 3] rfl ?_
          exact k_Mo_element_c49 hX hR hN hQ _ _ _ _ _ _ _ h
        · have h := h.2 q
          refine g_iload_n (pc := 29) hX d_Mo_element_29 rfl 3 rfl ?_
          refine g_iconst (pc := 30) (v := 1) hX d_Mo_element_30 (by decide) ?_
          refine g_icmp_lt (pc := 31) (tgt := 44) hX d_Mo_element_31 (by decide) (fun q => ?_) (fun q => ?_)
          · have h := h.1 q
            refine g_iconst (pc := 44) (v := 2) hX d_Mo_element_44 (by decide) ?_
            refine g_goto (pc := 45) (tgt := 49) hX d_Mo_element_45 (by decide) ?_
            refine g_sub [0, 1, 2, 3] rfl ?_
            exact k_Mo_element_c49 hX hR hN hQ _ _ _ _ _ _ _ h
          · have h := h.2 q
            refine g_iload_n (pc := 34) hX d_Mo_element_34 rfl 3 rfl ?_
            refine g_aload_n (pc := 35) hX d_Mo_element_35 rfl 0 rfl ?_
            refine g_getR (pc := 36) hX fl_Mo_131 rfl f1 d_Mo_element_36 ?_
            refine g_iload_n (pc := 39) hX d_Mo_element_39 rfl 1 rfl ?_
            obtain ⟨f4, h⟩ := h
            obtain ⟨f5, h⟩ := h
            refine g_iaload (pc := 40) hX f4 f5 d_Mo_element_40 ?_
            refine g_icmp_le (pc := 41) (tgt := 48) hX d_Mo_element_41 (by decide) (fun q => ?_) (fun q => ?_)
            · have h := h.1 q
              refine g_iconst (pc := 48) (v := 0) hX d_Mo_element_48 (by decide) ?_
              refine g_sub [0, 1, 2, 3] rfl ?_
              exact k_Mo_element_c49 hX hR hN hQ _ _ _ _ _ _ _ h
            · have h := h.2 q
              refine g_iconst (pc := 44) (v := 2) hX d_Mo_element_44 (by decide) ?_
              refine g_goto (pc := 45) (tgt := 49) hX d_Mo_element_45 (by decide) ?_
              refine g_sub [0, 1, 2, 3] rfl ?_
              exact k_Mo_element_c49 hX hR hN hQ _ _ _ _ _ _ _ h
    · have h := h.2 q
      refine g_iconst (pc := 10) (v := 1) hX d_Mo_element_10 (by decide) ?_
      refine g_goto (pc := 11) (tgt := 49) hX d_Mo_element_11 (by decide) ?_
      refine g_sub [0, 1, 2, 3] rfl ?_
      exact k_Mo_element_c49 hX hR hN hQ _ _ _ _ _ _ _ h
def wp_Mo_at (o : Nat) (A : Mem) (K : Int32 → Mem → Prop) : Prop := kd o = 9 ∧ wp_Mo_fine o (gI A o 17) A (fun (r3 : Int32) (A2 : Mem) => K r3 A2)
set_option maxRecDepth 100000 in
set_option maxHeartbeats 4000000 in
theorem c_Mo_at (o : Nat) (A : Mem) (K : Int32 → Mem → Prop) (h : wp_Mo_at o A K) : CtI y_Mo_at prog_14_method_79_code 1 1 21 (fun E => [cr E o]) A K := by
  refine ctI_of "BasicMachineModel" (by decide) rfl (fun E => [(0, cr E o)]) (fun E => by simp [lg_sl, cr_cat, ca_i, ca_l, ca_d]) (fun E => by simp [lv_args, cr_cat, ca_i, ca_l, ca_d]) (fun X E hX hR hN hQ => ?_)
  unfold wp_Mo_at at h
  refine g_aload_n (pc := 0) hX d_Mo_at_0 rfl 0 rfl ?_
  refine g_aload_n (pc := 1) hX d_Mo_at_1 rfl 0 rfl ?_
  obtain ⟨f1, h⟩ := h
  refine g_getI (pc := 2) hX fl_Mo_64 rfl f1 d_Mo_at_2 ?_
  refine g_callV_I (pc := 5) hX hR f1 cf9 rfl lk_Mo_153 mf_Mo_fine (c_Mo_fine _ _ _ _ h) rfl rfl rfl ⟨by decide, by decide⟩ (cat_sum _ (Nat.le_of_ble_eq_true rfl)) d_Mo_at_5 (fun r3 A2 h => ?_)
  exact g_iret hX hQ h d_Mo_at_8
def wp_Mo_most_c4 (K : Int32 → Mem → Prop) : Nat → Nat → Int32 → Int32 → Mem → Prop
  | 0, _, _, _, _ => False
  | n + 1, x0, x1, x2, A => ((24 ≤ x2 → K x1 A) ∧ (¬ 24 ≤ x2 → kd x0 = 9 ∧ kd (gR A x0 10) = 51 ∧ vp_in x2 (al (gR A x0 10)) ∧ (((gI A (gR A x0 10) (Int32.toNatClampNeg x2)) ≤ 0 → wp_Mo_most_c4 K n x0 x1 (x2 + 1) A) ∧ (¬ (gI A (gR A x0 10) (Int32.toNatClampNeg x2)) ≤ 0 → (((gI A (gR A x0 10) (Int32.toNatClampNeg x2)) ≤ x1 → wp_Mo_most_c4 K n x0 x1 (x2 + 1) A) ∧ (¬ (gI A (gR A x0 10) (Int32.toNatClampNeg x2)) ≤ x1 → wp_Mo_most_c4 K n x0 (gI A (gR A x0 10) (Int32.toNatClampNeg x2)) (x2 + 1) A))))))
def wp_Mo_most (o : Nat) (A : Mem) (K : Int32 → Mem → Prop) : Prop := (∃ n9 : Nat, wp_Mo_most_c4 K n9 o (-1) 0 A)
set_option maxRecDepth 100000 in
set_option maxHeartbeats 4000000 in
theorem k_Mo_most_c4 {X : CXT} {E : EVT} {K : Int32 → Mem → Prop} (hX : Gd X E "BasicMachineModel" prog_14_method_80_code) (hR : Rm X 0 0) (hN : xnL X = 3) (hQ : QI X E K) : ∀ (n : Nat) (x0 : Nat) (x1 : Int32) (x2 : Int32) (A : Mem), wp_Mo_most_c4 K n x0 x1 x2 A → G X E A 4 [(0, cr E x0), (1, .int (x1)), (2, .int (x2))] [] := by
  intro n
  induction n with
  | zero => intro x0 x1 x2 A h; exact h.elim
  | succ n ih =>
    intro x0 x1 x2 A h
    rw [wp_Mo_most_c4] at h
    refine g_iload_n (pc := 4) hX d_Mo_most_4 rfl 2 rfl ?_
    refine g_bipush (pc := 5) (v := 24) hX d_Mo_most_5 (by decide) ?_
    refine g_icmp_ge (pc := 7) (tgt := 42) hX d_Mo_most_7 (by decide) (fun q => ?_) (fun q => ?_)
    · have h := h.1 q
      refine g_iload_n (pc := 42) hX d_Mo_most_42 rfl 1 rfl ?_
      exact g_iret hX hQ h d_Mo_most_43
    · have h := h.2 q
      refine g_aload_n (pc := 10) hX d_Mo_most_10 rfl 0 rfl ?_
      obtain ⟨f1, h⟩ := h
      refine g_getR (pc := 11) hX fl_Mo_42 rfl f1 d_Mo_most_11 ?_
      refine g_iload_n (pc := 14) hX d_Mo_most_14 rfl 2 rfl ?_
      obtain ⟨f2, h⟩ := h
      obtain ⟨f3, h⟩ := h
      refine g_iaload (pc := 15) hX f2 f3 d_Mo_most_15 ?_
      refine g_if_le (pc := 16) (tgt := 36) hX d_Mo_most_16 (by decide) (fun q => ?_) (fun q => ?_)
      · have h := h.1 q
        refine g_iinc (pc := 36) (v := (x2 + 1)) (lv0 := [(1, .int (x1)), (0, cr E x0)]) hX d_Mo_most_36 2 rfl rfl (by rw [hN]; decide) (g_st1b (ks := [1, 0]) rfl rfl rfl rfl) ?_
        refine g_goto (pc := 39) (tgt := 4) hX d_Mo_most_39 (by decide) ?_
        refine g_sub [2, 1, 0] rfl ?_
        exact ih _ _ _ _ h
      · have h := h.2 q
        refine g_aload_n (pc := 19) hX d_Mo_most_19 rfl 0 rfl ?_
        refine g_getR (pc := 20) hX fl_Mo_42 rfl f1 d_Mo_most_20 ?_
        refine g_iload_n (pc := 23) hX d_Mo_most_23 rfl 2 rfl ?_
        refine g_iaload (pc := 24) hX f2 f3 d_Mo_most_24 ?_
        refine g_iload_n (pc := 25) hX d_Mo_most_25 rfl 1 rfl ?_
        refine g_icmp_le (pc := 26) (tgt := 36) hX d_Mo_most_26 (by decide) (fun q => ?_) (fun q => ?_)
        · have h := h.1 q
          refine g_iinc (pc := 36) (v := (x2 + 1)) (lv0 := [(1, .int (x1)), (0, cr E x0)]) hX d_Mo_most_36 2 rfl rfl (by rw [hN]; decide) (g_st1b (ks := [1, 0]) rfl rfl rfl rfl) ?_
          refine g_goto (pc := 39) (tgt := 4) hX d_Mo_most_39 (by decide) ?_
          refine g_sub [2, 1, 0] rfl ?_
          exact ih _ _ _ _ h
        · have h := h.2 q
          refine g_aload_n (pc := 29) hX d_Mo_most_29 rfl 0 rfl ?_
          refine g_getR (pc := 30) hX fl_Mo_42 rfl f1 d_Mo_most_30 ?_
          refine g_iload_n (pc := 33) hX d_Mo_most_33 rfl 2 rfl ?_
          refine g_iaload (pc := 34) hX f2 f3 d_Mo_most_34 ?_
          refine g_istore_n (pc := 35) (lv0 := [(0, cr E x0), (2, .int (x2))]) hX d_Mo_most_35 rfl (by rw [hN]; decide) (g_st1b (ks := [0, 2]) rfl (cr_cat _ _) rfl rfl) ?_
          refine g_iinc (pc := 36) (v := (x2 + 1)) (lv0 := [(1, .int ((gI A (gR A x0 10) (Int32.toNatClampNeg x2)))), (0, cr E x0)]) hX d_Mo_most_36 2 rfl rfl (by rw [hN]; decide) (g_st1b (ks := [0, 1]) rfl rfl rfl rfl) ?_
          refine g_goto (pc := 39) (tgt := 4) hX d_Mo_most_39 (by decide) ?_
          refine g_sub [2, 1, 0] rfl ?_
          exact ih _ _ _ _ h
set_option maxRecDepth 100000 in
set_option maxHeartbeats 4000000 in
theorem c_Mo_most (o : Nat) (A : Mem) (K : Int32 → Mem → Prop) (h : wp_Mo_most o A K) : CtI y_Mo_most prog_14_method_80_code 3 0 0 (fun E => [cr E o]) A K := by
  refine ctI_of "BasicMachineModel" (by decide) rfl (fun E => [(0, cr E o)]) (fun E => by simp [lg_sl, cr_cat, ca_i, ca_l, ca_d]) (fun E => by simp [lv_args, cr_cat, ca_i, ca_l, ca_d]) (fun X E hX hR hN hQ => ?_)
  unfold wp_Mo_most at h
  refine g_iconst (pc := 0) (v := (-1)) hX d_Mo_most_0 (by decide) ?_
  refine g_istore_n (pc := 1) (lv0 := [(0, cr E o)]) hX d_Mo_most_1 rfl (by rw [hN]; decide) (g_st1b (ks := [0]) rfl (cr_cat _ _) rfl rfl) ?_
  refine g_iconst (pc := 2) (v := 0) hX d_Mo_most_2 (by decide) ?_
  refine g_istore_n (pc := 3) (lv0 := [(1, .int ((-1))), (0, cr E o)]) hX d_Mo_most_3 rfl (by rw [hN]; decide) (g_st1b (ks := [0, 1]) rfl rfl rfl rfl) ?_
  refine g_sub [2, 1, 0] rfl ?_
  obtain ⟨n9, h⟩ := h
  exact k_Mo_most_c4 hX hR hN hQ n9 _ _ _ _ h
def wp_Mo_count (o : Nat) (p1 : Int32) (A : Mem) (K : Int32 → Mem → Prop) : Prop := kd o = 9 ∧ ((p1 = 0 → K (gI (sI A o 0 0) o 1) (sI A o 0 0)) ∧ (p1 = 1 → wp_Mo_lines o (sI A o 0 0) (fun (r3 : Int32) (A2 : Mem) => K r3 A2)) ∧ (p1 = 2 → K (gI (sI A o 0 0) o 16) (sI A o 0 0)) ∧ (p1 = 3 → K (gI (sI A o 0 0) o 18) (sI A o 0 0)) ∧ (p1 = 4 → K (gI (sI A o 0 0) o 23) (sI A o 0 0)) ∧ (p1 = 5 → K (gI (sI A o 0 0) o 22) (sI A o 0 0)) ∧ (p1 = 6 → K (gI (sI A o 0 0) o 21) (sI A o 0 0)) ∧ (p1 = 7 → K (gI (sI A o 0 0) o 26) (sI A o 0 0)) ∧ (p1 = 8 → wp_Mo_nextSlot o 0 (sI A o 0 0) (fun (r5 : Int32) (A4 : Mem) => ((0 ≤ r5 → wp_Mo_nextSlot o 0 A4 (fun (r7 : Int32) (A6 : Mem) => kd (gR A4 o 10) = 51 ∧ vp_in r7 (al (gR A4 o 10)) ∧ K (gI A6 (gR A4 o 10) (Int32.toNatClampNeg r7)) A6)) ∧ (¬ 0 ≤ r5 → K (-1) A4)))) ∧ (p1 = 9 → wp_Mo_most o (sI A o 0 0) (fun (r11 : Int32) (A10 : Mem) => K r11 A10)) ∧ (¬ p1 = 0 → ¬ p1 = 1 → ¬ p1 = 2 → ¬ p1 = 3 → ¬ p1 = 4 → ¬ p1 = 5 → ¬ p1 = 6 → ¬ p1 = 7 → ¬ p1 = 8 → ¬ p1 = 9 → K (-1) (sI A o 0 0)))
set_option maxRecDepth 100000 in
set_option maxHeartbeats 4000000 in
theorem c_Mo_count (o : Nat) (p1 : Int32) (A : Mem) (K : Int32 → Mem → Prop) (h : wp_Mo_count o p1 A K) : CtI y_Mo_count prog_14_method_81_code 2 1 23 (fun E => [cr E o, .int (p1)]) A K := by
  refine ctI_of "BasicMachineModel" (by decide) rfl (fun E => [(0, cr E o), (1, .int (p1))]) (fun E => by simp [lg_sl, cr_cat, ca_i, ca_l, ca_d]) (fun E => by simp [lv_args, cr_cat, ca_i, ca_l, ca_d]) (fun X E hX hR hN hQ => ?_)
  unfold wp_Mo_count at h
  refine g_aload_n (pc := 0) hX d_Mo_count_0 rfl 0 rfl ?_
  refine g_iconst (pc := 1) (v := 0) hX d_Mo_count_1 (by decide) ?_
  obtain ⟨f1, h⟩ := h
  refine g_putI (pc := 2) hX fl_Mo_7 rfl rfl rfl f1 d_Mo_count_2 ?_
  refine g_iload_n (pc := 5) hX d_Mo_count_5 rfl 1 rfl ?_
  by_cases q0 : p1 = 0
  · have h := h.1 q0
    refine g_tabin (pc := 6) (tgt := 60) (off := 54) hX (v := 0) q0 d_Mo_count_6 (by decide) (by decide) (by decide +kernel) (by decide) ?_
    refine g_aload_n (pc := 60) hX d_Mo_count_60 rfl 0 rfl ?_
    refine g_getI (pc := 61) hX fl_Mo_13 rfl f1 d_Mo_count_61 ?_
    exact g_iret hX hQ h d_Mo_count_64
  by_cases q1 : p1 = 1
  · have h := h.2.1 q1
    refine g_tabin (pc := 6) (tgt := 65) (off := 59) hX (v := 1) q1 d_Mo_count_6 (by decide) (by decide) (by decide +kernel) (by decide) ?_
    refine g_aload_n (pc := 65) hX d_Mo_count_65 rfl 0 rfl ?_
    refine g_callV_I (pc := 66) hX hR f1 cf9 rfl lk_Mo_332 mf_Mo_lines (c_Mo_lines _ _ _ h) rfl rfl rfl ⟨by decide, by decide⟩ (cat_sum _ (Nat.le_of_ble_eq_true rfl)) d_Mo_count_66 (fun r3 A2 h => ?_)
    exact g_iret hX hQ h d_Mo_count_69
  by_cases q2 : p1 = 2
  · have h := h.2.2.1 q2
    refine g_tabin (pc := 6) (tgt := 70) (off := 64) hX (v := 2) q2 d_Mo_count_6 (by decide) (by decide) (by decide +kernel) (by decide) ?_
    refine g_aload_n (pc := 70) hX d_Mo_count_70 rfl 0 rfl ?_
    refine g_getI (pc := 71) hX fl_Mo_61 rfl f1 d_Mo_count_71 ?_
    exact g_iret hX hQ h d_Mo_count_74
  by_cases q3 : p1 = 3
  · have h := h.2.2.2.1 q3
    refine g_tabin (pc := 6) (tgt := 75) (off := 69) hX (v := 3) q3 d_Mo_count_6 (by decide) (by decide) (by decide +kernel) (by decide) ?_
    refine g_aload_n (pc := 75) hX d_Mo_count_75 rfl 0 rfl ?_
    refine g_getI (pc := 76) hX fl_Mo_67 rfl f1 d_Mo_count_76 ?_
    exact g_iret hX hQ h d_Mo_count_79
  by_cases q4 : p1 = 4
  · have h := h.2.2.2.2.1 q4
    refine g_tabin (pc := 6) (tgt := 80) (off := 74) hX (v := 4) q4 d_Mo_count_6 (by decide) (by decide) (by decide +kernel) (by decide) ?_
    refine g_aload_n (pc := 80) hX d_Mo_count_80 rfl 0 rfl ?_
    refine g_getI (pc := 81) hX fl_Mo_82 rfl f1 d_Mo_count_81 ?_
    exact g_iret hX hQ h d_Mo_count_84
  by_cases q5 : p1 = 5
  · have h := h.2.2.2.2.2.1 q5
    refine g_tabin (pc := 6) (tgt := 85) (off := 79) hX (v := 5) q5 d_Mo_count_6 (by decide) (by decide) (by decide +kernel) (by decide) ?_
    refine g_aload_n (pc := 85) hX d_Mo_count_85 rfl 0 rfl ?_
    refine g_getI (pc := 86) hX fl_Mo_79 rfl f1 d_Mo_count_86 ?_
    exact g_iret hX hQ h d_Mo_count_89
  by_cases q6 : p1 = 6
  · have h := h.2.2.2.2.2.2.1 q6
    refine g_tabin (pc := 6) (tgt := 90) (off := 84) hX (v := 6) q6 d_Mo_count_6 (by decide) (by decide) (by decide +kernel) (by decide) ?_
    refine g_aload_n (pc := 90) hX d_Mo_count_90 rfl 0 rfl ?_
    refine g_getI (pc := 91) hX fl_Mo_76 rfl f1 d_Mo_count_91 ?_
    exact g_iret hX hQ h d_Mo_count_94
  by_cases q7 : p1 = 7
  · have h := h.2.2.2.2.2.2.2.1 q7
    refine g_tabin (pc := 6) (tgt := 95) (off := 89) hX (v := 7) q7 d_Mo_count_6 (by decide) (by decide) (by decide +kernel) (by decide) ?_
    refine g_aload_n (pc := 95) hX d_Mo_count_95 rfl 0 rfl ?_
    refine g_getI (pc := 96) hX fl_Mo_91 rfl f1 d_Mo_count_96 ?_
    exact g_iret hX hQ h d_Mo_count_99
  by_cases q8 : p1 = 8
  · have h := h.2.2.2.2.2.2.2.2.1 q8
    refine g_tabin (pc := 6) (tgt := 100) (off := 94) hX (v := 8) q8 d_Mo_count_6 (by decide) (by decide) (by decide +kernel) (by decide) ?_
    refine g_aload_n (pc := 100) hX d_Mo_count_100 rfl 0 rfl ?_
    refine g_iconst (pc := 101) (v := 0) hX d_Mo_count_101 (by decide) ?_
    refine g_callV_I (pc := 102) hX hR f1 cf9 rfl lk_Mo_389 mf_Mo_nextSlot (c_Mo_nextSlot _ _ _ _ h) rfl rfl rfl ⟨by decide, by decide⟩ (cat_sum _ (Nat.le_of_ble_eq_true rfl)) d_Mo_count_102 (fun r5 A4 h => ?_)
    refine g_if_ge (pc := 105) (tgt := 112) hX d_Mo_count_105 (by decide) (fun q => ?_) (fun q => ?_)
    · have h := h.1 q
      refine g_aload_n (pc := 112) hX d_Mo_count_112 rfl 0 rfl ?_
      refine g_getR (pc := 113) hX fl_Mo_42 rfl f1 d_Mo_count_113 ?_
      refine g_aload_n (pc := 116) hX d_Mo_count_116 rfl 0 rfl ?_
      refine g_iconst (pc := 117) (v := 0) hX d_Mo_count_117 (by decide) ?_
      refine g_callV_I (pc := 118) hX hR f1 cf9 rfl lk_Mo_389 mf_Mo_nextSlot (c_Mo_nextSlot _ _ _ _ h) rfl rfl rfl ⟨by decide, by decide⟩ (cat_sum _ (Nat.le_of_ble_eq_true rfl)) d_Mo_count_118 (fun r7 A6 h => ?_)
      obtain ⟨f8, h⟩ := h
      obtain ⟨f9, h⟩ := h
      refine g_iaload (pc := 121) hX f8 f9 d_Mo_count_121 ?_
      exact g_iret hX hQ h d_Mo_count_122
    · have h := h.2 q
      refine g_iconst (pc := 108) (v := (-1)) hX d_Mo_count_108 (by decide) ?_
      refine g_goto (pc := 109) (tgt := 122) hX d_Mo_count_109 (by decide) ?_
      exact g_iret hX hQ h d_Mo_count_122
  by_cases q9 : p1 = 9
  · have h := h.2.2.2.2.2.2.2.2.2.1 q9
    refine g_tabin (pc := 6) (tgt := 123) (off := 117) hX (v := 9) q9 d_Mo_count_6 (by decide) (by decide) (by decide +kernel) (by decide) ?_
    refine g_aload_n (pc := 123) hX d_Mo_count_123 rfl 0 rfl ?_
    refine g_callV_I (pc := 124) hX hR f1 cf9 rfl lk_Mo_446 mf_Mo_most (c_Mo_most _ _ _ h) rfl rfl rfl ⟨by decide, by decide⟩ (cat_sum _ (Nat.le_of_ble_eq_true rfl)) d_Mo_count_124 (fun r11 A10 h => ?_)
    exact g_iret hX hQ h d_Mo_count_127
  have h := h.2.2.2.2.2.2.2.2.2.2 q0 q1 q2 q3 q4 q5 q6 q7 q8 q9
  refine g_tabout (pc := 6) (tgt := 128) hX (vs := [(0 : Int32), (1 : Int32), (2 : Int32), (3 : Int32), (4 : Int32), (5 : Int32), (6 : Int32), (7 : Int32), (8 : Int32), (9 : Int32)]) (List.forall_mem_cons.mpr ⟨q0, List.forall_mem_cons.mpr ⟨q1, List.forall_mem_cons.mpr ⟨q2, List.forall_mem_cons.mpr ⟨q3, List.forall_mem_cons.mpr ⟨q4, List.forall_mem_cons.mpr ⟨q5, List.forall_mem_cons.mpr ⟨q6, List.forall_mem_cons.mpr ⟨q7, List.forall_mem_cons.mpr ⟨q8, List.forall_mem_cons.mpr ⟨q9, fun _ h9 => absurd h9 List.not_mem_nil⟩⟩⟩⟩⟩⟩⟩⟩⟩⟩) d_Mo_count_6 (by decide +kernel) (by decide) ?_
  refine g_iconst (pc := 128) (v := (-1)) hX d_Mo_count_128 (by decide) ?_
  exact g_iret hX hQ h d_Mo_count_129
def wp_Mo_enter_c213 (K : Int32 → Mem → Prop) (x0 : Nat) (x2 : Int32) (A : Mem) : Prop := ((0 ≤ x2 → kd x0 = 9 ∧ wp_Mo_copyTo x0 x2 A (fun (A33 : Mem) => wp_Mo_lines x0 A33 (fun (r36 : Int32) (A35 : Mem) => wp_Mo_fine x0 r36 A35 (fun (r38 : Int32) (A37 : Mem) => K r38 A37)))) ∧ (¬ 0 ≤ x2 → kd x0 = 9 ∧ wp_Mo_refuse x0 3 A (fun (r40 : Int32) (A39 : Mem) => K r40 A39)))
def wp_Mo_enter_c140 (K : Int32 → Mem → Prop) (x0 : Nat) (x1 : Int32) (A : Mem) : Prop := kd x0 = 9 ∧ (((gI A x0 7) = 0 → kd (gR A x0 10) = 51 ∧ vp_in 24 (al (gR A x0 10)) ∧ wp_Mo_slotOf x0 (gI A (gR A x0 10) (Int32.toNatClampNeg 24)) A (fun (r20 : Int32) (A19 : Mem) => ((x1 = 0 → ((0 ≤ r20 → wp_Mo_enter_c213 K x0 r20 A19) ∧ (¬ 0 ≤ r20 → wp_Mo_slotOf x0 0 A19 (fun (r22 : Int32) (A21 : Mem) => wp_Mo_enter_c213 K x0 r22 A21)))) ∧ (¬ x1 = 0 → ((0 ≤ r20 → kd (gR A19 x0 10) = 51 ∧ vp_in r20 (al (gR A19 x0 10)) ∧ wp_Mo_lines x0 (sI A19 (gR A19 x0 10) (Int32.toNatClampNeg r20) 0) (fun (r26 : Int32) (A25 : Mem) => wp_Mo_fine x0 r26 A25 (fun (r28 : Int32) (A27 : Mem) => K r28 A27))) ∧ (¬ 0 ≤ r20 → wp_Mo_refuse x0 2 A19 (fun (r30 : Int32) (A29 : Mem) => K r30 A29))))))) ∧ (¬ (gI A x0 7) = 0 → wp_Mo_refuse x0 1 (sI A x0 3 (gI A x0 4)) (fun (r32 : Int32) (A31 : Mem) => K r32 A31)))
def wp_Mo_enter_c7 (K : Int32 → Mem → Prop) : Nat → Nat → Int32 → Mem → Prop
  | 0, _, _, _ => False
  | n + 1, x0, x1, A => kd x0 = 9 ∧ (((gI A x0 1) ≤ x1 → wp_Mo_lineNumber x0 (sI (sI (sI (sI (sI (sI A x0 1 0) x0 4 0) x0 5 0) x0 6 0) x0 7 0) x0 3 (-1)) (fun (r4 : Int32) (A3 : Mem) => kd (gR (sI (sI (sI (sI (sI (sI A x0 1 0) x0 4 0) x0 5 0) x0 6 0) x0 7 0) x0 3 (-1)) x0 10) = 51 ∧ vp_in 24 (al (gR (sI (sI (sI (sI (sI (sI A x0 1 0) x0 4 0) x0 5 0) x0 6 0) x0 7 0) x0 3 (-1)) x0 10)) ∧ ∀ A7 : Mem, A7 = (sI A3 (gR (sI (sI (sI (sI (sI (sI A x0 1 0) x0 4 0) x0 5 0) x0 6 0) x0 7 0) x0 3 (-1)) x0 10) (Int32.toNatClampNeg 24) r4) → ((¬ (gI A7 x0 7) = 0 → ((¬ (0 : Int32) = 0 → wp_Mo_enter_c140 K x0 0 A7) ∧ ((0 : Int32) = 0 → ((¬ (gI A7 x0 7) = 0 → wp_Mo_enter_c140 K x0 0 A7) ∧ ((gI A7 x0 7) = 0 → wp_Mo_statement x0 A7 (fun (A8 : Mem) => wp_Mo_enter_c140 K x0 0 A8)))))) ∧ ((gI A7 x0 7) = 0 → ((¬ (gI A7 x0 4) = (gI A7 x0 2) → ((¬ (0 : Int32) = 0 → wp_Mo_enter_c140 K x0 0 A7) ∧ ((0 : Int32) = 0 → ((¬ (gI A7 x0 7) = 0 → wp_Mo_enter_c140 K x0 0 A7) ∧ ((gI A7 x0 7) = 0 → wp_Mo_statement x0 A7 (fun (A9 : Mem) => wp_Mo_enter_c140 K x0 0 A9)))))) ∧ ((gI A7 x0 4) = (gI A7 x0 2) → ((¬ (1 : Int32) = 0 → wp_Mo_enter_c140 K x0 1 A7) ∧ ((1 : Int32) = 0 → ((¬ (gI A7 x0 7) = 0 → wp_Mo_enter_c140 K x0 1 A7) ∧ ((gI A7 x0 7) = 0 → wp_Mo_statement x0 A7 (fun (A10 : Mem) => wp_Mo_enter_c140 K x0 1 A10))))))))))) ∧ (¬ (gI A x0 1) ≤ x1 → kd (gR A x0 8) = 52 ∧ vp_in x1 (al (gR A x0 8)) ∧ ((¬ (gI A (gR A x0 8) (Int32.toNatClampNeg x1)) = 32 → kd (gR A x0 9) = 52 ∧ vp_in (gI A x0 2) (al (gR A x0 9)) ∧ ∀ A15 : Mem, A15 = (sI A (gR A x0 9) (Int32.toNatClampNeg (gI A x0 2)) (vp_nar .char (gI A (gR A x0 8) (Int32.toNatClampNeg x1)))) → wp_Mo_enter_c7 K n x0 (x1 + 1) (sI A15 x0 2 ((gI A15 x0 2) + 1))) ∧ ((gI A (gR A x0 8) (Int32.toNatClampNeg x1)) = 32 → wp_Mo_enter_c7 K n x0 (x1 + 1) A))))
def wp_Mo_enter (o : Nat) (A : Mem) (K : Int32 → Mem → Prop) : Prop := kd o = 9 ∧ (∃ n9 : Nat, wp_Mo_enter_c7 K n9 o 0 (sI A o 2 0))
set_option maxRecDepth 100000 in
set_option maxHeartbeats 4000000 in
theorem k_Mo_enter_c213 {X : CXT} {E : EVT} {K : Int32 → Mem → Prop} (hX : Gd X E "BasicMachineModel" prog_14_method_43_code) (hR : Rm X 7 173) (hN : xnL X = 3) (hQ : QI X E K) (x0 : Nat) (x2 : Int32) (A : Mem) (h : wp_Mo_enter_c213 K x0 x2 A) : G X E A 213 [(0, cr E x0), (2, .int (x2))] [] := by
  unfold wp_Mo_enter_c213 at h
  refine g_iload_n (pc := 213) hX d_Mo_enter_213 rfl 1 rfl ?_
  refine g_if_ge (pc := 214) (tgt := 223) hX d_Mo_enter_214 (by decide) (fun q => ?_) (fun q => ?_)
  · have h := h.1 q
    refine g_aload_n (pc := 223) hX d_Mo_enter_223 rfl 0 rfl ?_
    refine g_iload_n (pc := 224) hX d_Mo_enter_224 rfl 1 rfl ?_
    obtain ⟨f34, h⟩ := h
    refine g_callV_V (pc := 225) hX hR f34 cf9 rfl lk_Mo_335 mf_Mo_copyTo (c_Mo_copyTo _ _ _ _ h) rfl rfl rfl ⟨by decide, by decide⟩ (cat_sum _ (Nat.le_of_ble_eq_true rfl)) d_Mo_enter_225 (fun A33 h => ?_)
    refine g_aload_n (pc := 228) hX d_Mo_enter_228 rfl 0 rfl ?_
    refine g_aload_n (pc := 229) hX d_Mo_enter_229 rfl 0 rfl ?_
    refine g_callV_I (pc := 230) hX hR f34 cf9 rfl lk_Mo_332 mf_Mo_lines (c_Mo_lines _ _ _ h) rfl rfl rfl ⟨by decide, by decide⟩ (cat_sum _ (Nat.le_of_ble_eq_true rfl)) d_Mo_enter_230 (fun r36 A35 h => ?_)
    refine g_callV_I (pc := 233) hX hR f34 cf9 rfl lk_Mo_153 mf_Mo_fine (c_Mo_fine _ _ _ _ h) rfl rfl rfl ⟨by decide, by decide⟩ (cat_sum _ (Nat.le_of_ble_eq_true rfl)) d_Mo_enter_233 (fun r38 A37 h => ?_)
    exact g_iret hX hQ h d_Mo_enter_236
  · have h := h.2 q
    refine g_aload_n (pc := 217) hX d_Mo_enter_217 rfl 0 rfl ?_
    refine g_iconst (pc := 218) (v := 3) hX d_Mo_enter_218 (by decide) ?_
    obtain ⟨f41, h⟩ := h
    refine g_callV_I (pc := 219) hX hR f41 cf9 rfl lk_Mo_149 mf_Mo_refuse (c_Mo_refuse _ _ _ _ h) rfl rfl rfl ⟨by decide, by decide⟩ (cat_sum _ (Nat.le_of_ble_eq_true rfl)) d_Mo_enter_219 (fun r40 A39 h => ?_)
    exact g_iret hX hQ h d_Mo_enter_222
set_option maxRecDepth 100000 in
set_option maxHeartbeats 4000000 in
theorem k_Mo_enter_c140 {X : CXT} {E : EVT} {K : Int32 → Mem → Prop} (hX : Gd X E "BasicMachineModel" prog_14_method_43_code) (hR : Rm X 7 173) (hN : xnL X = 3) (hQ : QI X E K) (x0 : Nat) (x1 : Int32) (A : Mem) (h : wp_Mo_enter_c140 K x0 x1 A) : G X E A 140 [(0, cr E x0), (1, .int (x1))] [] := by
  unfold wp_Mo_enter_c140 at h
  refine g_aload_n (pc := 140) hX d_Mo_enter_140 rfl 0 rfl ?_
  obtain ⟨f16, h⟩ := h
  refine g_getI (pc := 141) hX fl_Mo_31 rfl f16 d_Mo_enter_141 ?_
  refine g_if_eq (pc := 144) (tgt := 161) hX d_Mo_enter_144 (by decide) (fun q => ?_) (fun q => ?_)
  · have h := h.1 q
    refine g_aload_n (pc := 161) hX d_Mo_enter_161 rfl 0 rfl ?_
    refine g_aload_n (pc := 162) hX d_Mo_enter_162 rfl 0 rfl ?_
    refine g_getR (pc := 163) hX fl_Mo_42 rfl f16 d_Mo_enter_163 ?_
    refine g_bipush (pc := 166) (v := 24) hX d_Mo_enter_166 (by decide) ?_
    obtain ⟨f17, h⟩ := h
    obtain ⟨f18, h⟩ := h
    refine g_iaload (pc := 168) hX f17 f18 d_Mo_enter_168 ?_
    refine g_callV_I (pc := 169) hX hR f16 cf9 rfl lk_Mo_329 mf_Mo_slotOf (c_Mo_slotOf _ _ _ _ h) rfl rfl rfl ⟨by decide, by decide⟩ (cat_sum _ (Nat.le_of_ble_eq_true rfl)) d_Mo_enter_169 (fun r20 A19 h => ?_)
    refine g_istore_n (pc := 172) (lv0 := [(1, .int (x1)), (0, cr E x0)]) hX d_Mo_enter_172 rfl (by rw [hN]; decide) (g_st1b (ks := [1, 0]) rfl rfl rfl rfl) ?_
    refine g_iload_n (pc := 173) hX d_Mo_enter_173 rfl 1 rfl ?_
    refine g_if_eq (pc := 174) (tgt := 203) hX d_Mo_enter_174 (by decide) (fun q => ?_) (fun q => ?_)
    · have h := h.1 q
      refine g_iload_n (pc := 203) hX d_Mo_enter_203 rfl 0 rfl ?_
      refine g_if_ge (pc := 204) (tgt := 213) hX d_Mo_enter_204 (by decide) (fun q => ?_) (fun q => ?_)
      · have h := h.1 q
        refine g_sub [2, 0] rfl ?_
        exact k_Mo_enter_c213 hX hR hN hQ _ _ _ h
      · have h := h.2 q
        refine g_aload_n (pc := 207) hX d_Mo_enter_207 rfl 2 rfl ?_
        refine g_iconst (pc := 208) (v := 0) hX d_Mo_enter_208 (by decide) ?_
        refine g_callV_I (pc := 209) hX hR f16 cf9 rfl lk_Mo_329 mf_Mo_slotOf (c_Mo_slotOf _ _ _ _ h) rfl rfl rfl ⟨by decide, by decide⟩ (cat_sum _ (Nat.le_of_ble_eq_true rfl)) d_Mo_enter_209 (fun r22 A21 h => ?_)
        refine g_istore_n (pc := 212) (lv0 := [(1, .int (x1)), (0, cr E x0)]) hX d_Mo_enter_212 rfl (by rw [hN]; decide) (g_st1b (ks := [1, 2]) rfl rfl rfl rfl) ?_
        refine g_sub [2, 0] rfl ?_
        exact k_Mo_enter_c213 hX hR hN hQ _ _ _ h
    · have h := h.2 q
      refine g_iload_n (pc := 177) hX d_Mo_enter_177 rfl 0 rfl ?_
      refine g_if_ge (pc := 178) (tgt := 187) hX d_Mo_enter_178 (by decide) (fun q => ?_) (fun q => ?_)
      · have h := h.1 q
        refine g_aload_n (pc := 187) hX d_Mo_enter_187 rfl 2 rfl ?_
        refine g_getR (pc := 188) hX fl_Mo_42 rfl f16 d_Mo_enter_188 ?_
        refine g_iload_n (pc := 191) hX d_Mo_enter_191 rfl 0 rfl ?_
        refine g_iconst (pc := 192) (v := 0) hX d_Mo_enter_192 (by decide) ?_
        obtain ⟨f23, h⟩ := h
        obtain ⟨f24, h⟩ := h
        refine g_iastore (pc := 193) hX f23 f24 d_Mo_enter_193 ?_
        refine g_aload_n (pc := 194) hX d_Mo_enter_194 rfl 2 rfl ?_
        refine g_aload_n (pc := 195) hX d_Mo_enter_195 rfl 2 rfl ?_
        refine g_callV_I (pc := 196) hX hR f16 cf9 rfl lk_Mo_332 mf_Mo_lines (c_Mo_lines _ _ _ h) rfl rfl rfl ⟨by decide, by decide⟩ (cat_sum _ (Nat.le_of_ble_eq_true rfl)) d_Mo_enter_196 (fun r26 A25 h => ?_)
        refine g_callV_I (pc := 199) hX hR f16 cf9 rfl lk_Mo_153 mf_Mo_fine (c_Mo_fine _ _ _ _ h) rfl rfl rfl ⟨by decide, by decide⟩ (cat_sum _ (Nat.le_of_ble_eq_true rfl)) d_Mo_enter_199 (fun r28 A27 h => ?_)
        exact g_iret hX hQ h d_Mo_enter_202
      · have h := h.2 q
        refine g_aload_n (pc := 181) hX d_Mo_enter_181 rfl 2 rfl ?_
        refine g_iconst (pc := 182) (v := 2) hX d_Mo_enter_182 (by decide) ?_
        refine g_callV_I (pc := 183) hX hR f16 cf9 rfl lk_Mo_149 mf_Mo_refuse (c_Mo_refuse _ _ _ _ h) rfl rfl rfl ⟨by decide, by decide⟩ (cat_sum _ (Nat.le_of_ble_eq_true rfl)) d_Mo_enter_183 (fun r30 A29 h => ?_)
        exact g_iret hX hQ h d_Mo_enter_186
  · have h := h.2 q
    refine g_aload_n (pc := 147) hX d_Mo_enter_147 rfl 0 rfl ?_
    refine g_aload_n (pc := 148) hX d_Mo_enter_148 rfl 0 rfl ?_
    refine g_getI (pc := 149) hX fl_Mo_22 rfl f16 d_Mo_enter_149 ?_
    refine g_putI (pc := 152) hX fl_Mo_19 rfl rfl rfl f16 d_Mo_enter_152 ?_
    refine g_aload_n (pc := 155) hX d_Mo_enter_155 rfl 0 rfl ?_
    refine g_iconst (pc := 156) (v := 1) hX d_Mo_enter_156 (by decide) ?_
    refine g_callV_I (pc := 157) hX hR f16 cf9 rfl lk_Mo_149 mf_Mo_refuse (c_Mo_refuse _ _ _ _ h) rfl rfl rfl ⟨by decide, by decide⟩ (cat_sum _ (Nat.le_of_ble_eq_true rfl)) d_Mo_enter_157 (fun r32 A31 h => ?_)
    exact g_iret hX hQ h d_Mo_enter_160
set_option maxRecDepth 100000 in
set_option maxHeartbeats 4000000 in
theorem k_Mo_enter_c7 {X : CXT} {E : EVT} {K : Int32 → Mem → Prop} (hX : Gd X E "BasicMachineModel" prog_14_method_43_code) (hR : Rm X 7 173) (hN : xnL X = 3) (hQ : QI X E K) : ∀ (n : Nat) (x0 : Nat) (x1 : Int32) (A : Mem), wp_Mo_enter_c7 K n x0 x1 A → G X E A 7 [(0, cr E x0), (1, .int (x1))] [] := by
  intro n
  induction n with
  | zero => intro x0 x1 A h; exact h.elim
  | succ n ih =>
    intro x0 x1 A h
    rw [wp_Mo_enter_c7] at h
    refine g_iload_n (pc := 7) hX d_Mo_enter_7 rfl 1 rfl ?_
    refine g_aload_n (pc := 8) hX d_Mo_enter_8 rfl 0 rfl ?_
    obtain ⟨f2, h⟩ := h
    refine g_getI (pc := 9) hX fl_Mo_13 rfl f2 d_Mo_enter_9 ?_
    refine g_icmp_ge (pc := 12) (tgt := 60) hX d_Mo_enter_12 (by decide) (fun q => ?_) (fun q => ?_)
    · have h := h.1 q
      refine g_aload_n (pc := 60) hX d_Mo_enter_60 rfl 0 rfl ?_
      refine g_iconst (pc := 61) (v := 0) hX d_Mo_enter_61 (by decide) ?_
      refine g_putI (pc := 62) hX fl_Mo_13 rfl rfl rfl f2 d_Mo_enter_62 ?_
      refine g_aload_n (pc := 65) hX d_Mo_enter_65 rfl 0 rfl ?_
      refine g_iconst (pc := 66) (v := 0) hX d_Mo_enter_66 (by decide) ?_
      refine g_putI (pc := 67) hX fl_Mo_22 rfl rfl rfl f2 d_Mo_enter_67 ?_
      refine g_aload_n (pc := 70) hX d_Mo_enter_70 rfl 0 rfl ?_
      refine g_iconst (pc := 71) (v := 0) hX d_Mo_enter_71 (by decide) ?_
      refine g_putI (pc := 72) hX fl_Mo_25 rfl rfl rfl f2 d_Mo_enter_72 ?_
      refine g_aload_n (pc := 75) hX d_Mo_enter_75 rfl 0 rfl ?_
      refine g_iconst (pc := 76) (v := 0) hX d_Mo_enter_76 (by decide) ?_
      refine g_putI (pc := 77) hX fl_Mo_28 rfl rfl rfl f2 d_Mo_enter_77 ?_
      refine g_aload_n (pc := 80) hX d_Mo_enter_80 rfl 0 rfl ?_
      refine g_iconst (pc := 81) (v := 0) hX d_Mo_enter_81 (by decide) ?_
      refine g_putZ (pc := 82) hX (Or.inl rfl) fl_Mo_31 rfl rfl rfl f2 d_Mo_enter_82 ?_
      refine g_aload_n (pc := 85) hX d_Mo_enter_85 rfl 0 rfl ?_
      refine g_iconst (pc := 86) (v := (-1)) hX d_Mo_enter_86 (by decide) ?_
      refine g_putI (pc := 87) hX fl_Mo_19 rfl rfl rfl f2 d_Mo_enter_87 ?_
      refine g_aload_n (pc := 90) hX d_Mo_enter_90 rfl 0 rfl ?_
      refine g_getR (pc := 91) hX fl_Mo_42 rfl f2 d_Mo_enter_91 ?_
      refine g_bipush (pc := 94) (v := 24) hX d_Mo_enter_94 (by decide) ?_
      refine g_aload_n (pc := 96) hX d_Mo_enter_96 rfl 0 rfl ?_
      refine g_callV_I (pc := 97) hX hR f2 cf9 rfl lk_Mo_296 mf_Mo_lineNumber (c_Mo_lineNumber _ _ _ h) rfl rfl rfl ⟨by decide, by decide⟩ (cat_sum _ (Nat.le_of_ble_eq_true rfl)) d_Mo_enter_97 (fun r4 A3 h => ?_)
      obtain ⟨f5, h⟩ := h
      obtain ⟨f6, h⟩ := h
      refine g_iastore (pc := 100) hX f5 f6 d_Mo_enter_100 ?_
      refine g_nm (fun A7 eA7 => ?_)
      have h := h A7 eA7
      refine g_aload_n (pc := 101) hX d_Mo_enter_101 rfl 0 rfl ?_
      refine g_getI (pc := 102) hX fl_Mo_31 rfl f2 d_Mo_enter_102 ?_
      refine g_if_ne (pc := 105) (tgt := 123) hX d_Mo_enter_105 (by decide) (fun q => ?_) (fun q => ?_)
      · have h := h.1 q
        refine g_iconst (pc := 123) (v := 0) hX d_Mo_enter_123 (by decide) ?_
        refine g_istore_n (pc := 124) (lv0 := [(0, cr E x0)]) hX d_Mo_enter_124 rfl (by rw [hN]; decide) (g_st1b (ks := [0]) rfl (cr_cat _ _) rfl rfl) ?_
        refine g_iload_n (pc := 125) hX d_Mo_enter_125 rfl 0 rfl ?_
        refine g_if_ne (pc := 126) (tgt := 140) hX d_Mo_enter_126 (by decide) (fun q => ?_) (fun q => ?_)
        · have h := h.1 q
          refine g_sub [1, 0] rfl ?_
          exact k_Mo_enter_c140 hX hR hN hQ _ _ _ h
        · have h := h.2 q
          refine g_aload_n (pc := 129) hX d_Mo_enter_129 rfl 1 rfl ?_
          refine g_getI (pc := 130) hX fl_Mo_31 rfl f2 d_Mo_enter_130 ?_
          refine g_if_ne (pc := 133) (tgt := 140) hX d_Mo_enter_133 (by decide) (fun q => ?_) (fun q => ?_)
          · have h := h.1 q
            refine g_sub [1, 0] rfl ?_
            exact k_Mo_enter_c140 hX hR hN hQ _ _ _ h
          · have h := h.2 q
            refine g_aload_n (pc := 136) hX d_Mo_enter_136 rfl 1 rfl ?_
            refine g_callV_V (pc := 137) hX hR f2 cf9 rfl lk_Mo_326 mf_Mo_statement (c_Mo_statement _ _ _ h) rfl rfl rfl ⟨by decide, by decide⟩ (cat_sum _ (Nat.le_of_ble_eq_true rfl)) d_Mo_enter_137 (fun A8 h => ?_)
            refine g_sub [1, 0] rfl ?_
            exact k_Mo_enter_c140 hX hR hN hQ _ _ _ h
      · have h := h.2 q
        refine g_aload_n (pc := 108) hX d_Mo_enter_108 rfl 0 rfl ?_
        refine g_getI (pc := 109) hX fl_Mo_22 rfl f2 d_Mo_enter_109 ?_
        refine g_aload_n (pc := 112) hX d_Mo_enter_112 rfl 0 rfl ?_
        refine g_getI (pc := 113) hX fl_Mo_16 rfl f2 d_Mo_enter_113 ?_
        refine g_icmp_ne (pc := 116) (tgt := 123) hX d_Mo_enter_116 (by decide) (fun q => ?_) (fun q => ?_)
        · have h := h.1 q
          refine g_iconst (pc := 123) (v := 0) hX d_Mo_enter_123 (by decide) ?_
          refine g_istore_n (pc := 124) (lv0 := [(0, cr E x0)]) hX d_Mo_enter_124 rfl (by rw [hN]; decide) (g_st1b (ks := [0]) rfl (cr_cat _ _) rfl rfl) ?_
          refine g_iload_n (pc := 125) hX d_Mo_enter_125 rfl 0 rfl ?_
          refine g_if_ne (pc := 126) (tgt := 140) hX d_Mo_enter_126 (by decide) (fun q => ?_) (fun q => ?_)
          · have h := h.1 q
            refine g_sub [1, 0] rfl ?_
            exact k_Mo_enter_c140 hX hR hN hQ _ _ _ h
          · have h := h.2 q
            refine g_aload_n (pc := 129) hX d_Mo_enter_129 rfl 1 rfl ?_
            refine g_getI (pc := 130) hX fl_Mo_31 rfl f2 d_Mo_enter_130 ?_
            refine g_if_ne (pc := 133) (tgt := 140) hX d_Mo_enter_133 (by decide) (fun q => ?_) (fun q => ?_)
            · have h := h.1 q
              refine g_sub [1, 0] rfl ?_
              exact k_Mo_enter_c140 hX hR hN hQ _ _ _ h
            · have h := h.2 q
              refine g_aload_n (pc := 136) hX d_Mo_enter_136 rfl 1 rfl ?_
              refine g_callV_V (pc := 137) hX hR f2 cf9 rfl lk_Mo_326 mf_Mo_statement (c_Mo_statement _ _ _ h) rfl rfl rfl ⟨by decide, by decide⟩ (cat_sum _ (Nat.le_of_ble_eq_true rfl)) d_Mo_enter_137 (fun A9 h => ?_)
              refine g_sub [1, 0] rfl ?_
              exact k_Mo_enter_c140 hX hR hN hQ _ _ _ h
        · have h := h.2 q
          refine g_iconst (pc := 119) (v := 1) hX d_Mo_enter_119 (by decide) ?_
          refine g_goto (pc := 120) (tgt := 124) hX d_Mo_enter_120 (by decide) ?_
          refine g_istore_n (pc := 124) (lv0 := [(0, cr E x0)]) hX d_Mo_enter_124 rfl (by rw [hN]; decide) (g_st1b (ks := [0]) rfl (cr_cat _ _) rfl rfl) ?_
          refine g_iload_n (pc := 125) hX d_Mo_enter_125 rfl 0 rfl ?_
          refine g_if_ne (pc := 126) (tgt := 140) hX d_Mo_enter_126 (by decide) (fun q => ?_) (fun q => ?_)
          · have h := h.1 q
            refine g_sub [1, 0] rfl ?_
            exact k_Mo_enter_c140 hX hR hN hQ _ _ _ h
          · have h := h.2 q
            refine g_aload_n (pc := 129) hX d_Mo_enter_129 rfl 1 rfl ?_
            refine g_getI (pc := 130) hX fl_Mo_31 rfl f2 d_Mo_enter_130 ?_
            refine g_if_ne (pc := 133) (tgt := 140) hX d_Mo_enter_133 (by decide) (fun q => ?_) (fun q => ?_)
            · have h := h.1 q
              refine g_sub [1, 0] rfl ?_
              exact k_Mo_enter_c140 hX hR hN hQ _ _ _ h
            · have h := h.2 q
              refine g_aload_n (pc := 136) hX d_Mo_enter_136 rfl 1 rfl ?_
              refine g_callV_V (pc := 137) hX hR f2 cf9 rfl lk_Mo_326 mf_Mo_statement (c_Mo_statement _ _ _ h) rfl rfl rfl ⟨by decide, by decide⟩ (cat_sum _ (Nat.le_of_ble_eq_true rfl)) d_Mo_enter_137 (fun A10 h => ?_)
              refine g_sub [1, 0] rfl ?_
              exact k_Mo_enter_c140 hX hR hN hQ _ _ _ h
    · have h := h.2 q
      refine g_aload_n (pc := 15) hX d_Mo_enter_15 rfl 0 rfl ?_
      refine g_getR (pc := 16) hX fl_Mo_35 rfl f2 d_Mo_enter_16 ?_
      refine g_iload_n (pc := 19) hX d_Mo_enter_19 rfl 1 rfl ?_
      obtain ⟨f11, h⟩ := h
      obtain ⟨f12, h⟩ := h
      refine g_caload (pc := 20) hX f11 f12 d_Mo_enter_20 ?_
      refine g_bipush (pc := 21) (v := 32) hX d_Mo_enter_21 (by decide) ?_
      refine g_icmp_ne (pc := 23) (tgt := 29) hX d_Mo_enter_23 (by decide) (fun q => ?_) (fun q => ?_)
      · have h := h.1 q
        refine g_aload_n (pc := 29) hX d_Mo_enter_29 rfl 0 rfl ?_
        refine g_getR (pc := 30) hX fl_Mo_39 rfl f2 d_Mo_enter_30 ?_
        refine g_aload_n (pc := 33) hX d_Mo_enter_33 rfl 0 rfl ?_
        refine g_getI (pc := 34) hX fl_Mo_16 rfl f2 d_Mo_enter_34 ?_
        refine g_aload_n (pc := 37) hX d_Mo_enter_37 rfl 0 rfl ?_
        refine g_getR (pc := 38) hX fl_Mo_35 rfl f2 d_Mo_enter_38 ?_
        refine g_iload_n (pc := 41) hX d_Mo_enter_41 rfl 1 rfl ?_
        refine g_caload (pc := 42) hX f11 f12 d_Mo_enter_42 ?_
        obtain ⟨f13, h⟩ := h
        obtain ⟨f14, h⟩ := h
        refine g_castore (pc := 43) hX f13 f14 d_Mo_enter_43 ?_
        refine g_nm (fun A15 eA15 => ?_)
        have h := h A15 eA15
        refine g_aload_n (pc := 44) hX d_Mo_enter_44 rfl 0 rfl ?_
        refine g_dup (pc := 45) hX d_Mo_enter_45 (cr_cat _ _) ?_
        refine g_getI (pc := 46) hX fl_Mo_16 rfl f2 d_Mo_enter_46 ?_
        refine g_iconst (pc := 49) (v := 1) hX d_Mo_enter_49 (by decide) ?_
        refine g_iadd (pc := 50) hX d_Mo_enter_50 ?_
        refine g_putI (pc := 51) hX fl_Mo_16 rfl rfl rfl f2 d_Mo_enter_51 ?_
        refine g_iinc (pc := 54) (v := (x1 + 1)) (lv0 := [(0, cr E x0)]) hX d_Mo_enter_54 1 rfl rfl (by rw [hN]; decide) (g_st1b (ks := [0]) rfl (cr_cat _ _) rfl rfl) ?_
        refine g_goto (pc := 57) (tgt := 7) hX d_Mo_enter_57 (by decide) ?_
        refine g_sub [1, 0] rfl ?_
        exact ih _ _ _ h
      · have h := h.2 q
        refine g_goto (pc := 26) (tgt := 54) hX d_Mo_enter_26 (by decide) ?_
        refine g_iinc (pc := 54) (v := (x1 + 1)) (lv0 := [(0, cr E x0)]) hX d_Mo_enter_54 1 rfl rfl (by rw [hN]; decide) (g_st1b (ks := [0]) rfl (cr_cat _ _) rfl rfl) ?_
        refine g_goto (pc := 57) (tgt := 7) hX d_Mo_enter_57 (by decide) ?_
        refine g_sub [1, 0] rfl ?_
        exact ih _ _ _ h
set_option maxRecDepth 100000 in
set_option maxHeartbeats 4000000 in
theorem c_Mo_enter (o : Nat) (A : Mem) (K : Int32 → Mem → Prop) (h : wp_Mo_enter o A K) : CtI y_Mo_enter prog_14_method_43_code 3 7 173 (fun E => [cr E o]) A K := by
  refine ctI_of "BasicMachineModel" (by decide) rfl (fun E => [(0, cr E o)]) (fun E => by simp [lg_sl, cr_cat, ca_i, ca_l, ca_d]) (fun E => by simp [lv_args, cr_cat, ca_i, ca_l, ca_d]) (fun X E hX hR hN hQ => ?_)
  unfold wp_Mo_enter at h
  refine g_aload_n (pc := 0) hX d_Mo_enter_0 rfl 0 rfl ?_
  refine g_iconst (pc := 1) (v := 0) hX d_Mo_enter_1 (by decide) ?_
  obtain ⟨f1, h⟩ := h
  refine g_putI (pc := 2) hX fl_Mo_16 rfl rfl rfl f1 d_Mo_enter_2 ?_
  refine g_iconst (pc := 5) (v := 0) hX d_Mo_enter_5 (by decide) ?_
  refine g_istore_n (pc := 6) (lv0 := [(0, cr E o)]) hX d_Mo_enter_6 rfl (by rw [hN]; decide) (g_st1b (ks := [0]) rfl (cr_cat _ _) rfl rfl) ?_
  refine g_sub [1, 0] rfl ?_
  obtain ⟨n9, h⟩ := h
  exact k_Mo_enter_c7 hX hR hN hQ n9 _ _ _ h
