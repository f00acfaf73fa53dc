def wp_JP_checkIndex (p0 : Int32) (p1 : Int32) (p2 : Nat) (A : Mem) (K : Int32 → Mem → Prop) : Prop := ((p0 < 0 → False) ∧ (¬ p0 < 0 → ((p0 < p1 → K p0 A) ∧ (¬ p0 < p1 → False))))
set_option maxRecDepth 100000 in
set_option maxHeartbeats 4000000 in
theorem c_JP_checkIndex (p0 : Int32) (p1 : Int32) (p2 : Nat) (A : Mem) (K : Int32 → Mem → Prop) (h : wp_JP_checkIndex p0 p1 p2 A K) : CtI y_JP_checkIndex prog_30_method_11_code 3 0 0 (fun E => [.int (p0), .int (p1), cr E p2]) A K := by
  refine ctI_of "jdk/internal/util/Preconditions" (by decide) rfl (fun E => [(0, .int (p0)), (1, .int (p1)), (2, cr E p2)]) (fun E => by simp [lg_sl, cr_cat, ca_i, ca_l, ca_d]) (fun E => by simp [lv_args, cr_cat, ca_i, ca_l, ca_d]) (fun X E hX hR hN hQ => ?_)
  unfold wp_JP_checkIndex at h
  refine g_iload_n (pc := 0) hX d_JP_checkIndex_0 rfl 0 rfl ?_
  refine g_if_lt (pc := 1) (tgt := 9) hX d_JP_checkIndex_1 (by decide) (fun q => ?_) (fun q => ?_)
  · have h := h.1 q
    exact h.elim
  · have h := h.2 q
    refine g_iload_n (pc := 4) hX d_JP_checkIndex_4 rfl 0 rfl ?_
    refine g_iload_n (pc := 5) hX d_JP_checkIndex_5 rfl 1 rfl ?_
    refine g_icmp_lt (pc := 6) (tgt := 16) hX d_JP_checkIndex_6 (by decide) (fun q => ?_) (fun q => ?_)
    · have h := h.1 q
      refine g_iload_n (pc := 16) hX d_JP_checkIndex_16 rfl 0 rfl ?_
      exact g_iret hX hQ h d_JP_checkIndex_17
    · have h := h.2 q
      exact h.elim
def wp_JS_coder (o : Nat) (A : Mem) (K : Int32 → Mem → Prop) : Prop := (((1 : Int32) = 0 → K 1 A) ∧ (¬ (1 : Int32) = 0 → isS o ∧ K 0 A))
set_option maxRecDepth 100000 in
set_option maxHeartbeats 4000000 in
theorem c_JS_coder (o : Nat) (A : Mem) (K : Int32 → Mem → Prop) (h : wp_JS_coder o A K) : CtN y_JS_coder prog_23_method_152_code 1 .byte 0 0 (fun E => [cr E o]) A K := by
  refine ctN_of "java/lang/String" (by decide) rfl (fun E => [(0, cr E o)]) (fun E => by simp [lg_sl, cr_cat, ca_i, ca_l, ca_d]) (fun E => by simp [lv_args, cr_cat, ca_i, ca_l, ca_d]) (fun X E hX hR hN hQ => ?_)
  unfold wp_JS_coder at h
  refine g_gets (pc := 0) hX (gSF hX).2.2.2.2.2.2.2.2.2.1 ls_JS_38 d_JS_coder_0 ?_
  refine g_if_eq (pc := 3) (tgt := 13) hX d_JS_coder_3 (by decide) (fun q => ?_) (fun q => ?_)
  · have h := h.1 q
    refine g_iconst (pc := 13) (v := 1) hX d_JS_coder_13 (by decide) ?_
    exact g_nret hX hQ rfl h d_JS_coder_14
  · have h := h.2 q
    refine g_aload_n (pc := 6) hX d_JS_coder_6 rfl 0 rfl ?_
    obtain ⟨f1, h⟩ := h
    refine g_getSC (pc := 7) hX f1 ls_JS_15 d_JS_coder_7 ?_
    refine g_goto (pc := 10) (tgt := 14) hX d_JS_coder_10 (by decide) ?_
    exact g_nret hX hQ rfl h d_JS_coder_14
def wp_JS_length (o : Nat) (A : Mem) (K : Int32 → Mem → Prop) : Prop := isS o ∧ isSB (o + 100) ∧ wp_JS_coder o A (fun (r4 : Int32) (A3 : Mem) => K ((Int32.ofNat (lenS.getD ((o + 100) - 2100) 0)) >>> (r4 &&& 31)) A3)
set_option maxRecDepth 100000 in
set_option maxHeartbeats 4000000 in
theorem c_JS_length (o : Nat) (A : Mem) (K : Int32 → Mem → Prop) (h : wp_JS_length o A K) : CtI y_JS_length prog_23_method_54_code 1 1 20 (fun E => [cr E o]) A K := by
  refine ctI_of "java/lang/String" (by decide) rfl (fun E => [(0, cr E o)]) (fun E => by simp [lg_sl, cr_cat, ca_i, ca_l, ca_d]) (fun E => by simp [lv_args, cr_cat, ca_i, ca_l, ca_d]) (fun X E hX hR hN hQ => ?_)
  unfold wp_JS_length at h
  refine g_aload_n (pc := 0) hX d_JS_length_0 rfl 0 rfl ?_
  obtain ⟨f1, h⟩ := h
  refine g_getSV (pc := 1) hX f1 ls_JS_9 d_JS_length_1 ?_
  obtain ⟨f2, h⟩ := h
  refine g_sblen (pc := 4) hX f2 d_JS_length_4 ?_
  refine g_aload_n (pc := 5) hX d_JS_length_5 rfl 0 rfl ?_
  refine g_callVS_N (pc := 6) hX hR f1 rfl lk_JS_335 mf_JS_coder (c_JS_coder _ _ _ h) rfl rfl rfl ⟨by decide, by decide⟩ (cat_sum _ (Nat.le_of_ble_eq_true rfl)) d_JS_length_6 (fun r4 A3 h => ?_)
  refine g_ishr (pc := 9) hX d_JS_length_9 ?_
  exact g_iret hX hQ h d_JS_length_10
def wp_JS_isLatin1 (o : Nat) (A : Mem) (K : Bool → Mem → Prop) : Prop := (((1 : Int32) = 0 → K false A) ∧ (¬ (1 : Int32) = 0 → isS o ∧ ((¬ (0 : Int32) = 0 → K false A) ∧ ((0 : Int32) = 0 → K true A))))
set_option maxRecDepth 100000 in
set_option maxHeartbeats 4000000 in
theorem c_JS_isLatin1 (o : Nat) (A : Mem) (K : Bool → Mem → Prop) (h : wp_JS_isLatin1 o A K) : CtZ y_JS_isLatin1 prog_23_method_154_code 1 0 0 (fun E => [cr E o]) A K := by
  refine ctZ_of "java/lang/String" (by decide) rfl (fun E => [(0, cr E o)]) (fun E => by simp [lg_sl, cr_cat, ca_i, ca_l, ca_d]) (fun E => by simp [lv_args, cr_cat, ca_i, ca_l, ca_d]) (fun X E hX hR hN hQ => ?_)
  unfold wp_JS_isLatin1 at h
  refine g_gets (pc := 0) hX (gSF hX).2.2.2.2.2.2.2.2.2.1 ls_JS_38 d_JS_isLatin1_0 ?_
  refine g_if_eq (pc := 3) (tgt := 17) hX d_JS_isLatin1_3 (by decide) (fun q => ?_) (fun q => ?_)
  · have h := h.1 q
    refine g_iconst (pc := 17) (v := 0) hX d_JS_isLatin1_17 (by decide) ?_
    exact g_zret hX hQ false rfl h d_JS_isLatin1_18
  · have h := h.2 q
    refine g_aload_n (pc := 6) hX d_JS_isLatin1_6 rfl 0 rfl ?_
    obtain ⟨f1, h⟩ := h
    refine g_getSC (pc := 7) hX f1 ls_JS_15 d_JS_isLatin1_7 ?_
    refine g_if_ne (pc := 10) (tgt := 17) hX d_JS_isLatin1_10 (by decide) (fun q => ?_) (fun q => ?_)
    · have h := h.1 q
      refine g_iconst (pc := 17) (v := 0) hX d_JS_isLatin1_17 (by decide) ?_
      exact g_zret hX hQ false rfl h d_JS_isLatin1_18
    · have h := h.2 q
      refine g_iconst (pc := 13) (v := 1) hX d_JS_isLatin1_13 (by decide) ?_
      refine g_goto (pc := 14) (tgt := 18) hX d_JS_isLatin1_14 (by decide) ?_
      exact g_zret hX hQ true rfl h d_JS_isLatin1_18
def wp_JS_checkIndex (p0 : Int32) (p1 : Int32) (A : Mem) (K : Mem → Prop) : Prop := ∀ r1 : Nat, wp_JP_checkIndex p0 p1 r1 A (fun (r3 : Int32) (A2 : Mem) => K A2)
set_option maxRecDepth 100000 in
set_option maxHeartbeats 4000000 in
theorem c_JS_checkIndex (p0 : Int32) (p1 : Int32) (A : Mem) (K : Mem → Prop) (h : wp_JS_checkIndex p0 p1 A K) : CtV y_JS_checkIndex prog_23_method_155_code 2 1 22 (fun E => [.int (p0), .int (p1)]) A K := by
  refine ctV_of "java/lang/String" (by decide) rfl (fun E => [(0, .int (p0)), (1, .int (p1))]) (fun E => by simp [lg_sl, cr_cat, ca_i, ca_l, ca_d]) (fun E => by simp [lv_args, cr_cat, ca_i, ca_l, ca_d]) (fun X E hX hR hN hQ => ?_)
  unfold wp_JS_checkIndex at h
  refine g_iload_n (pc := 0) hX d_JS_checkIndex_0 rfl 0 rfl ?_
  refine g_iload_n (pc := 1) hX d_JS_checkIndex_1 rfl 1 rfl ?_
  refine g_getFm (pc := 2) hX ls_JS_1053 d_JS_checkIndex_2 (fun r1 => ?_)
  have h := h r1
  refine g_callS_I (pc := 5) hX hR lk_JS_1059 mf_JP_checkIndex (c_JP_checkIndex _ _ _ _ _ h) rfl rfl rfl ⟨by decide, by decide⟩ (cat_sum _ (Nat.le_of_ble_eq_true rfl)) d_JS_checkIndex_5 (fun r3 A2 h => ?_)
  refine g_pop (pc := 8) hX d_JS_checkIndex_8 rfl ?_
  exact g_vret hX hQ h d_JS_checkIndex_9
def wp_JL_charAt (p0 : Nat) (p1 : Int32) (A : Mem) (K : Int32 → Mem → Prop) : Prop := isSB p0 ∧ wp_JS_checkIndex p1 (Int32.ofNat (lenS.getD (p0 - 2100) 0)) A (fun (A2 : Mem) => vp_in p1 (lenS.getD (p0 - 2100) 0) ∧ narrow .char (.int ((Int32.toUInt32 (((bytS.getD (p0 - 2100) []).getD (Int32.toNatClampNeg p1) 0) &&& 255) % 65536).toInt32)) = .int ((Int32.toUInt32 (((bytS.getD (p0 - 2100) []).getD (Int32.toNatClampNeg p1) 0) &&& 255) % 65536).toInt32) ∧ K ((Int32.toUInt32 (((bytS.getD (p0 - 2100) []).getD (Int32.toNatClampNeg p1) 0) &&& 255) % 65536).toInt32) A2)
set_option maxRecDepth 100000 in
set_option maxHeartbeats 4000000 in
theorem c_JL_charAt (p0 : Nat) (p1 : Int32) (A : Mem) (K : Int32 → Mem → Prop) (h : wp_JL_charAt p0 p1 A K) : CtN y_JL_charAt prog_24_method_2_code 2 .char 2 43 (fun E => [cr E p0, .int (p1)]) A K := by
  refine ctN_of "java/lang/StringLatin1" (by decide) rfl (fun E => [(0, cr E p0), (1, .int (p1))]) (fun E => by simp [lg_sl, cr_cat, ca_i, ca_l, ca_d]) (fun E => by simp [lv_args, cr_cat, ca_i, ca_l, ca_d]) (fun X E hX hR hN hQ => ?_)
  unfold wp_JL_charAt at h
  refine g_iload_n (pc := 0) hX d_JL_charAt_0 rfl 1 rfl ?_
  refine g_aload_n (pc := 1) hX d_JL_charAt_1 rfl 0 rfl ?_
  obtain ⟨f1, h⟩ := h
  refine g_sblen (pc := 2) hX f1 d_JL_charAt_2 ?_
  refine g_callS_V (pc := 3) hX hR lk_JL_9 mf_JS_checkIndex (c_JS_checkIndex _ _ _ _ h) rfl rfl rfl ⟨by decide, by decide⟩ (cat_sum _ (Nat.le_of_ble_eq_true rfl)) d_JL_charAt_3 (fun A2 h => ?_)
  refine g_aload_n (pc := 6) hX d_JL_charAt_6 rfl 0 rfl ?_
  refine g_iload_n (pc := 7) hX d_JL_charAt_7 rfl 1 rfl ?_
  obtain ⟨f3, h⟩ := h
  refine g_sbld (pc := 8) hX f1 f3 d_JL_charAt_8 ?_
  refine g_sipush (pc := 9) (v := 255) hX d_JL_charAt_9 (by decide) ?_
  refine g_iand (pc := 12) hX d_JL_charAt_12 ?_
  refine g_i2c (pc := 13) hX d_JL_charAt_13 rfl ?_
  obtain ⟨f4, h⟩ := h
  exact g_nret hX hQ f4 h d_JL_charAt_14
def wp_Li_clear (o : Nat) (A : Mem) (K : Mem → Prop) : Prop := kd o = 3 ∧ K (sI (sI (sI (sI (sR (sI (sI A o 0 0) o 1 0) o 2 1015) o 4 0) o 9 0) o 12 0) o 14 0)
set_option maxRecDepth 100000 in
set_option maxHeartbeats 4000000 in
theorem c_Li_clear (o : Nat) (A : Mem) (K : Mem → Prop) (h : wp_Li_clear o A K) : CtV y_Li_clear prog_6_method_2_code 1 0 0 (fun E => [cr E o]) A K := by
  refine ctV_of "BasicMachine$Line" (by decide) rfl (fun E => [(0, cr E o)]) (fun E => by simp [lg_sl, cr_cat, ca_i, ca_l, ca_d]) (fun E => by simp [lv_args, cr_cat, ca_i, ca_l, ca_d]) (fun X E hX hR hN hQ => ?_)
  unfold wp_Li_clear at h
  refine g_aload_n (pc := 0) hX d_Li_clear_0 rfl 0 rfl ?_
  refine g_iconst (pc := 1) (v := 0) hX d_Li_clear_1 (by decide) ?_
  obtain ⟨f1, h⟩ := h
  refine g_putI (pc := 2) hX fl_Li_42 rfl rfl rfl f1 d_Li_clear_2 ?_
  refine g_aload_n (pc := 5) hX d_Li_clear_5 rfl 0 rfl ?_
  refine g_iconst (pc := 6) (v := 0) hX d_Li_clear_6 (by decide) ?_
  refine g_putZ (pc := 7) hX (Or.inl rfl) fl_Li_46 rfl rfl rfl f1 d_Li_clear_7 ?_
  refine g_aload_n (pc := 10) hX d_Li_clear_10 rfl 0 rfl ?_
  refine g_getsE (pc := 11) (i := 15) hX (gSF hX).1 (by decide) rfl (by decide) ls_Li_9 d_Li_clear_11 ?_
  refine g_putR (pc := 14) hX fl_Li_15 rfl rfl rfl f1 d_Li_clear_14 ?_
  refine g_aload_n (pc := 17) hX d_Li_clear_17 rfl 0 rfl ?_
  refine g_iconst (pc := 18) (v := 0) hX d_Li_clear_18 (by decide) ?_
  refine g_putZ (pc := 19) hX (Or.inl rfl) fl_Li_50 rfl rfl rfl f1 d_Li_clear_19 ?_
  refine g_aload_n (pc := 22) hX d_Li_clear_22 rfl 0 rfl ?_
  refine g_iconst (pc := 23) (v := 0) hX d_Li_clear_23 (by decide) ?_
  refine g_putI (pc := 24) hX fl_Li_53 rfl rfl rfl f1 d_Li_clear_24 ?_
  refine g_aload_n (pc := 27) hX d_Li_clear_27 rfl 0 rfl ?_
  refine g_iconst (pc := 28) (v := 0) hX d_Li_clear_28 (by decide) ?_
  refine g_putI (pc := 29) hX fl_Li_56 rfl rfl rfl f1 d_Li_clear_29 ?_
  refine g_aload_n (pc := 32) hX d_Li_clear_32 rfl 0 rfl ?_
  refine g_iconst (pc := 33) (v := 0) hX d_Li_clear_33 (by decide) ?_
  refine g_putI (pc := 34) hX fl_Li_59 rfl rfl rfl f1 d_Li_clear_34 ?_
  exact g_vret hX hQ h d_Li_clear_37
def wp_Li_addNumber (o : Nat) (p1 : Int32) (A : Mem) (K : Mem → Prop) : Prop := kd o = 3 ∧ kd (gR A o 8) = 51 ∧ (((Int32.ofNat (al (gR A o 8))) ≤ (gI A o 9) → K A) ∧ (¬ (Int32.ofNat (al (gR A o 8))) ≤ (gI A o 9) → vp_in (gI A o 9) (al (gR A o 8)) ∧ ∀ A4 : Mem, A4 = (sI (sI A (gR A o 8) (Int32.toNatClampNeg (gI A o 9)) p1) o 9 ((gI (sI A (gR A o 8) (Int32.toNatClampNeg (gI A o 9)) p1) o 9) + 1)) → K A4))
set_option maxRecDepth 100000 in
set_option maxHeartbeats 4000000 in
theorem c_Li_addNumber (o : Nat) (p1 : Int32) (A : Mem) (K : Mem → Prop) (h : wp_Li_addNumber o p1 A K) : CtV y_Li_addNumber prog_6_method_3_code 2 0 0 (fun E => [cr E o, .int (p1)]) A K := by
  refine ctV_of "BasicMachine$Line" (by decide) rfl (fun E => [(0, cr E o), (1, .int (p1))]) (fun E => by simp [lg_sl, cr_cat, ca_i, ca_l, ca_d]) (fun E => by simp [lv_args, cr_cat, ca_i, ca_l, ca_d]) (fun X E hX hR hN hQ => ?_)
  unfold wp_Li_addNumber at h
  refine g_aload_n (pc := 0) hX d_Li_addNumber_0 rfl 0 rfl ?_
  obtain ⟨f1, h⟩ := h
  refine g_getI (pc := 1) hX fl_Li_53 rfl f1 d_Li_addNumber_1 ?_
  refine g_aload_n (pc := 4) hX d_Li_addNumber_4 rfl 0 rfl ?_
  refine g_getR (pc := 5) hX fl_Li_29 rfl f1 d_Li_addNumber_5 ?_
  obtain ⟨f2, h⟩ := h
  refine g_alen (pc := 8) hX f2 (by decide) rfl d_Li_addNumber_8 ?_
  refine g_icmp_ge (pc := 9) (tgt := 32) hX d_Li_addNumber_9 (by decide) (fun q => ?_) (fun q => ?_)
  · have h := h.1 q
    exact g_vret hX hQ h d_Li_addNumber_32
  · have h := h.2 q
    refine g_aload_n (pc := 12) hX d_Li_addNumber_12 rfl 0 rfl ?_
    refine g_getR (pc := 13) hX fl_Li_29 rfl f1 d_Li_addNumber_13 ?_
    refine g_aload_n (pc := 16) hX d_Li_addNumber_16 rfl 0 rfl ?_
    refine g_getI (pc := 17) hX fl_Li_53 rfl f1 d_Li_addNumber_17 ?_
    refine g_iload_n (pc := 20) hX d_Li_addNumber_20 rfl 1 rfl ?_
    obtain ⟨f3, h⟩ := h
    refine g_iastore (pc := 21) hX f2 f3 d_Li_addNumber_21 ?_
    refine g_aload_n (pc := 22) hX d_Li_addNumber_22 rfl 0 rfl ?_
    refine g_dup (pc := 23) hX d_Li_addNumber_23 (cr_cat _ _) ?_
    refine g_getI (pc := 24) hX fl_Li_53 rfl f1 d_Li_addNumber_24 ?_
    refine g_iconst (pc := 27) (v := 1) hX d_Li_addNumber_27 (by decide) ?_
    refine g_iadd (pc := 28) hX d_Li_addNumber_28 ?_
    refine g_putI (pc := 29) hX fl_Li_53 rfl rfl rfl f1 d_Li_addNumber_29 ?_
    refine g_nm (fun A4 eA4 => ?_)
    have h := h A4 eA4
    exact g_vret hX hQ h d_Li_addNumber_32
def wp_Li_numberAt (o : Nat) (p1 : Int32) (A : Mem) (K : Int32 → Mem → Prop) : Prop := ((p1 < 0 → K 0 A) ∧ (¬ p1 < 0 → kd o = 3 ∧ (((gI A o 9) ≤ p1 → K 0 A) ∧ (¬ (gI A o 9) ≤ p1 → kd (gR A o 8) = 51 ∧ vp_in p1 (al (gR A o 8)) ∧ K (gI A (gR A o 8) (Int32.toNatClampNeg p1)) A))))
set_option maxRecDepth 100000 in
set_option maxHeartbeats 4000000 in
theorem c_Li_numberAt (o : Nat) (p1 : Int32) (A : Mem) (K : Int32 → Mem → Prop) (h : wp_Li_numberAt o p1 A K) : CtI y_Li_numberAt prog_6_method_4_code 2 0 0 (fun E => [cr E o, .int (p1)]) A K := by
  refine ctI_of "BasicMachine$Line" (by decide) rfl (fun E => [(0, cr E o), (1, .int (p1))]) (fun E => by simp [lg_sl, cr_cat, ca_i, ca_l, ca_d]) (fun E => by simp [lv_args, cr_cat, ca_i, ca_l, ca_d]) (fun X E hX hR hN hQ => ?_)
  unfold wp_Li_numberAt at h
  refine g_iload_n (pc := 0) hX d_Li_numberAt_0 rfl 1 rfl ?_
  refine g_if_lt (pc := 1) (tgt := 21) hX d_Li_numberAt_1 (by decide) (fun q => ?_) (fun q => ?_)
  · have h := h.1 q
    refine g_iconst (pc := 21) (v := 0) hX d_Li_numberAt_21 (by decide) ?_
    exact g_iret hX hQ h d_Li_numberAt_22
  · have h := h.2 q
    refine g_iload_n (pc := 4) hX d_Li_numberAt_4 rfl 1 rfl ?_
    refine g_aload_n (pc := 5) hX d_Li_numberAt_5 rfl 0 rfl ?_
    obtain ⟨f1, h⟩ := h
    refine g_getI (pc := 6) hX fl_Li_53 rfl f1 d_Li_numberAt_6 ?_
    refine g_icmp_ge (pc := 9) (tgt := 21) hX d_Li_numberAt_9 (by decide) (fun q => ?_) (fun q => ?_)
    · have h := h.1 q
      refine g_iconst (pc := 21) (v := 0) hX d_Li_numberAt_21 (by decide) ?_
      exact g_iret hX hQ h d_Li_numberAt_22
    · have h := h.2 q
      refine g_aload_n (pc := 12) hX d_Li_numberAt_12 rfl 0 rfl ?_
      refine g_getR (pc := 13) hX fl_Li_29 rfl f1 d_Li_numberAt_13 ?_
      refine g_iload_n (pc := 16) hX d_Li_numberAt_16 rfl 1 rfl ?_
      obtain ⟨f2, h⟩ := h
      obtain ⟨f3, h⟩ := h
      refine g_iaload (pc := 17) hX f2 f3 d_Li_numberAt_17 ?_
      refine g_goto (pc := 18) (tgt := 22) hX d_Li_numberAt_18 (by decide) ?_
      exact g_iret hX hQ h d_Li_numberAt_22
def wp_Li_addOperation (o : Nat) (p1 : Int32) (p2 : Int32) (A : Mem) (K : Mem → Prop) : Prop := kd o = 3 ∧ kd (gR A o 10) = 51 ∧ (((Int32.ofNat (al (gR A o 10))) ≤ (gI A o 12) → K A) ∧ (¬ (Int32.ofNat (al (gR A o 10))) ≤ (gI A o 12) → vp_in (gI A o 12) (al (gR A o 10)) ∧ kd (gR (sI A (gR A o 10) (Int32.toNatClampNeg (gI A o 12)) p1) o 11) = 51 ∧ vp_in (gI (sI A (gR A o 10) (Int32.toNatClampNeg (gI A o 12)) p1) o 12) (al (gR (sI A (gR A o 10) (Int32.toNatClampNeg (gI A o 12)) p1) o 11)) ∧ ∀ A6 : Mem, A6 = (sI (sI A (gR A o 10) (Int32.toNatClampNeg (gI A o 12)) p1) (gR (sI A (gR A o 10) (Int32.toNatClampNeg (gI A o 12)) p1) o 11) (Int32.toNatClampNeg (gI (sI A (gR A o 10) (Int32.toNatClampNeg (gI A o 12)) p1) o 12)) p2) → K (sI A6 o 12 ((gI A6 o 12) + 1))))
set_option maxRecDepth 100000 in
set_option maxHeartbeats 4000000 in
theorem c_Li_addOperation (o : Nat) (p1 : Int32) (p2 : Int32) (A : Mem) (K : Mem → Prop) (h : wp_Li_addOperation o p1 p2 A K) : CtV y_Li_addOperation prog_6_method_5_code 3 0 0 (fun E => [cr E o, .int (p1), .int (p2)]) A K := by
  refine ctV_of "BasicMachine$Line" (by decide) rfl (fun E => [(0, cr E o), (1, .int (p1)), (2, .int (p2))]) (fun E => by simp [lg_sl, cr_cat, ca_i, ca_l, ca_d]) (fun E => by simp [lv_args, cr_cat, ca_i, ca_l, ca_d]) (fun X E hX hR hN hQ => ?_)
  unfold wp_Li_addOperation at h
  refine g_aload_n (pc := 0) hX d_Li_addOperation_0 rfl 0 rfl ?_
  obtain ⟨f1, h⟩ := h
  refine g_getI (pc := 1) hX fl_Li_56 rfl f1 d_Li_addOperation_1 ?_
  refine g_aload_n (pc := 4) hX d_Li_addOperation_4 rfl 0 rfl ?_
  refine g_getR (pc := 5) hX fl_Li_33 rfl f1 d_Li_addOperation_5 ?_
  obtain ⟨f2, h⟩ := h
  refine g_alen (pc := 8) hX f2 (by decide) rfl d_Li_addOperation_8 ?_
  refine g_icmp_ge (pc := 9) (tgt := 42) hX d_Li_addOperation_9 (by decide) (fun q => ?_) (fun q => ?_)
  · have h := h.1 q
    exact g_vret hX hQ h d_Li_addOperation_42
  · have h := h.2 q
    refine g_aload_n (pc := 12) hX d_Li_addOperation_12 rfl 0 rfl ?_
    refine g_getR (pc := 13) hX fl_Li_33 rfl f1 d_Li_addOperation_13 ?_
    refine g_aload_n (pc := 16) hX d_Li_addOperation_16 rfl 0 rfl ?_
    refine g_getI (pc := 17) hX fl_Li_56 rfl f1 d_Li_addOperation_17 ?_
    refine g_iload_n (pc := 20) hX d_Li_addOperation_20 rfl 1 rfl ?_
    obtain ⟨f3, h⟩ := h
    refine g_iastore (pc := 21) hX f2 f3 d_Li_addOperation_21 ?_
    refine g_aload_n (pc := 22) hX d_Li_addOperation_22 rfl 0 rfl ?_
    refine g_getR (pc := 23) hX fl_Li_36 rfl f1 d_Li_addOperation_23 ?_
    refine g_aload_n (pc := 26) hX d_Li_addOperation_26 rfl 0 rfl ?_
    refine g_getI (pc := 27) hX fl_Li_56 rfl f1 d_Li_addOperation_27 ?_
    refine g_iload_n (pc := 30) hX d_Li_addOperation_30 rfl 2 rfl ?_
    obtain ⟨f4, h⟩ := h
    obtain ⟨f5, h⟩ := h
    refine g_iastore (pc := 31) hX f4 f5 d_Li_addOperation_31 ?_
    refine g_nm (fun A6 eA6 => ?_)
    have h := h A6 eA6
    refine g_aload_n (pc := 32) hX d_Li_addOperation_32 rfl 0 rfl ?_
    refine g_dup (pc := 33) hX d_Li_addOperation_33 (cr_cat _ _) ?_
    refine g_getI (pc := 34) hX fl_Li_56 rfl f1 d_Li_addOperation_34 ?_
    refine g_iconst (pc := 37) (v := 1) hX d_Li_addOperation_37 (by decide) ?_
    refine g_iadd (pc := 38) hX d_Li_addOperation_38 ?_
    refine g_putI (pc := 39) hX fl_Li_56 rfl rfl rfl f1 d_Li_addOperation_39 ?_
    exact g_vret hX hQ h d_Li_addOperation_42
def wp_Li_endExpression (o : Nat) (A : Mem) (K : Mem → Prop) : Prop := kd o = 3 ∧ kd (gR A o 13) = 51 ∧ (((Int32.ofNat (al (gR A o 13))) ≤ (gI A o 14) → K A) ∧ (¬ (Int32.ofNat (al (gR A o 13))) ≤ (gI A o 14) → vp_in (gI A o 14) (al (gR A o 13)) ∧ ∀ A4 : Mem, A4 = (sI (sI A (gR A o 13) (Int32.toNatClampNeg (gI A o 14)) (gI A o 12)) o 14 ((gI (sI A (gR A o 13) (Int32.toNatClampNeg (gI A o 14)) (gI A o 12)) o 14) + 1)) → K A4))
set_option maxRecDepth 100000 in
set_option maxHeartbeats 4000000 in
theorem c_Li_endExpression (o : Nat) (A : Mem) (K : Mem → Prop) (h : wp_Li_endExpression o A K) : CtV y_Li_endExpression prog_6_method_6_code 1 0 0 (fun E => [cr E o]) A K := by
  refine ctV_of "BasicMachine$Line" (by decide) rfl (fun E => [(0, cr E o)]) (fun E => by simp [lg_sl, cr_cat, ca_i, ca_l, ca_d]) (fun E => by simp [lv_args, cr_cat, ca_i, ca_l, ca_d]) (fun X E hX hR hN hQ => ?_)
  unfold wp_Li_endExpression at h
  refine g_aload_n (pc := 0) hX d_Li_endExpression_0 rfl 0 rfl ?_
  obtain ⟨f1, h⟩ := h
  refine g_getI (pc := 1) hX fl_Li_59 rfl f1 d_Li_endExpression_1 ?_
  refine g_aload_n (pc := 4) hX d_Li_endExpression_4 rfl 0 rfl ?_
  refine g_getR (pc := 5) hX fl_Li_39 rfl f1 d_Li_endExpression_5 ?_
  obtain ⟨f2, h⟩ := h
  refine g_alen (pc := 8) hX f2 (by decide) rfl d_Li_endExpression_8 ?_
  refine g_icmp_ge (pc := 9) (tgt := 35) hX d_Li_endExpression_9 (by decide) (fun q => ?_) (fun q => ?_)
  · have h := h.1 q
    exact g_vret hX hQ h d_Li_endExpression_35
  · have h := h.2 q
    refine g_aload_n (pc := 12) hX d_Li_endExpression_12 rfl 0 rfl ?_
    refine g_getR (pc := 13) hX fl_Li_39 rfl f1 d_Li_endExpression_13 ?_
    refine g_aload_n (pc := 16) hX d_Li_endExpression_16 rfl 0 rfl ?_
    refine g_getI (pc := 17) hX fl_Li_59 rfl f1 d_Li_endExpression_17 ?_
    refine g_aload_n (pc := 20) hX d_Li_endExpression_20 rfl 0 rfl ?_
    refine g_getI (pc := 21) hX fl_Li_56 rfl f1 d_Li_endExpression_21 ?_
    obtain ⟨f3, h⟩ := h
    refine g_iastore (pc := 24) hX f2 f3 d_Li_endExpression_24 ?_
    refine g_aload_n (pc := 25) hX d_Li_endExpression_25 rfl 0 rfl ?_
    refine g_dup (pc := 26) hX d_Li_endExpression_26 (cr_cat _ _) ?_
    refine g_getI (pc := 27) hX fl_Li_59 rfl f1 d_Li_endExpression_27 ?_
    refine g_iconst (pc := 30) (v := 1) hX d_Li_endExpression_30 (by decide) ?_
    refine g_iadd (pc := 31) hX d_Li_endExpression_31 ?_
    refine g_putI (pc := 32) hX fl_Li_59 rfl rfl rfl f1 d_Li_endExpression_32 ?_
    refine g_nm (fun A4 eA4 => ?_)
    have h := h A4 eA4
    exact g_vret hX hQ h d_Li_endExpression_35
def wp_Li_endOf (o : Nat) (p1 : Int32) (A : Mem) (K : Int32 → Mem → Prop) : Prop := ((p1 < 0 → K 0 A) ∧ (¬ p1 < 0 → kd o = 3 ∧ (((gI A o 14) ≤ p1 → K 0 A) ∧ (¬ (gI A o 14) ≤ p1 → kd (gR A o 13) = 51 ∧ vp_in p1 (al (gR A o 13)) ∧ K (gI A (gR A o 13) (Int32.toNatClampNeg p1)) A))))
set_option maxRecDepth 100000 in
set_option maxHeartbeats 4000000 in
theorem c_Li_endOf (o : Nat) (p1 : Int32) (A : Mem) (K : Int32 → Mem → Prop) (h : wp_Li_endOf o p1 A K) : CtI y_Li_endOf prog_6_method_8_code 2 0 0 (fun E => [cr E o, .int (p1)]) A K := by
  refine ctI_of "BasicMachine$Line" (by decide) rfl (fun E => [(0, cr E o), (1, .int (p1))]) (fun E => by simp [lg_sl, cr_cat, ca_i, ca_l, ca_d]) (fun E => by simp [lv_args, cr_cat, ca_i, ca_l, ca_d]) (fun X E hX hR hN hQ => ?_)
  unfold wp_Li_endOf at h
  refine g_iload_n (pc := 0) hX d_Li_endOf_0 rfl 1 rfl ?_
  refine g_if_lt (pc := 1) (tgt := 21) hX d_Li_endOf_1 (by decide) (fun q => ?_) (fun q => ?_)
  · have h := h.1 q
    refine g_iconst (pc := 21) (v := 0) hX d_Li_endOf_21 (by decide) ?_
    exact g_iret hX hQ h d_Li_endOf_22
  · have h := h.2 q
    refine g_iload_n (pc := 4) hX d_Li_endOf_4 rfl 1 rfl ?_
    refine g_aload_n (pc := 5) hX d_Li_endOf_5 rfl 0 rfl ?_
    obtain ⟨f1, h⟩ := h
    refine g_getI (pc := 6) hX fl_Li_59 rfl f1 d_Li_endOf_6 ?_
    refine g_icmp_ge (pc := 9) (tgt := 21) hX d_Li_endOf_9 (by decide) (fun q => ?_) (fun q => ?_)
    · have h := h.1 q
      refine g_iconst (pc := 21) (v := 0) hX d_Li_endOf_21 (by decide) ?_
      exact g_iret hX hQ h d_Li_endOf_22
    · have h := h.2 q
      refine g_aload_n (pc := 12) hX d_Li_endOf_12 rfl 0 rfl ?_
      refine g_getR (pc := 13) hX fl_Li_39 rfl f1 d_Li_endOf_13 ?_
      refine g_iload_n (pc := 16) hX d_Li_endOf_16 rfl 1 rfl ?_
      obtain ⟨f2, h⟩ := h
      obtain ⟨f3, h⟩ := h
      refine g_iaload (pc := 17) hX f2 f3 d_Li_endOf_17 ?_
      refine g_goto (pc := 18) (tgt := 22) hX d_Li_endOf_18 (by decide) ?_
      exact g_iret hX hQ h d_Li_endOf_22
def wp_Mx_shape_c12 (K : Mem → Prop) : Nat → Nat → Int32 → Mem → Prop
  | 0, _, _, _ => False
  | n + 1, x0, x3, A => kd x0 = 7 ∧ kd (gR A x0 2) = 53 ∧ (((Int32.ofNat (al (gR A x0 2))) ≤ x3 → K A) ∧ (¬ (Int32.ofNat (al (gR A x0 2))) ≤ x3 → vp_in x3 (al (gR A x0 2)) ∧ wp_Mx_shape_c12 K n x0 (x3 + 1) (sD A (gR A x0 2) (Int32.toNatClampNeg x3) FP.dconst0)))
def wp_Mx_shape (o : Nat) (p1 : Int32) (p2 : Int32) (A : Mem) (K : Mem → Prop) : Prop := kd o = 7 ∧ (∃ n9 : Nat, wp_Mx_shape_c12 K n9 o 0 (sI (sI A o 0 p1) o 1 p2))
set_option maxRecDepth 100000 in
set_option maxHeartbeats 4000000 in
theorem k_Mx_shape_c12 {X : CXT} {E : EVT} {K : Mem → Prop} (hX : Gd X E "BasicMachine$Matrix" prog_9_method_2_code) (hR : Rm X 0 0) (hN : xnL X = 4) (hQ : QV X E K) : ∀ (n : Nat) (x0 : Nat) (x3 : Int32) (A : Mem), wp_Mx_shape_c12 K n x0 x3 A → G X E A 12 [(0, cr E x0), (3, .int (x3))] [] := by
  intro n
  induction n with
  | zero => intro x0 x3 A h; exact h.elim
  | succ n ih =>
    intro x0 x3 A h
    rw [wp_Mx_shape_c12] at h
    refine g_iload_n (pc := 12) hX d_Mx_shape_12 rfl 1 rfl ?_
    refine g_aload_n (pc := 13) hX d_Mx_shape_13 rfl 0 rfl ?_
    obtain ⟨f2, h⟩ := h
    refine g_getR (pc := 14) hX fl_Mx_9 rfl f2 d_Mx_shape_14 ?_
    obtain ⟨f3, h⟩ := h
    refine g_alen (pc := 17) hX f3 (by decide) rfl d_Mx_shape_17 ?_
    refine g_icmp_ge (pc := 18) (tgt := 34) hX d_Mx_shape_18 (by decide) (fun q => ?_) (fun q => ?_)
    · have h := h.1 q
      exact g_vret hX hQ h d_Mx_shape_34
    · have h := h.2 q
      refine g_aload_n (pc := 21) hX d_Mx_shape_21 rfl 0 rfl ?_
      refine g_getR (pc := 22) hX fl_Mx_9 rfl f2 d_Mx_shape_22 ?_
      refine g_iload_n (pc := 25) hX d_Mx_shape_25 rfl 1 rfl ?_
      refine g_dconst0 (pc := 26) hX d_Mx_shape_26 ?_
      obtain ⟨f4, h⟩ := h
      refine g_dastore (pc := 27) hX f3 f4 d_Mx_shape_27 ?_
      refine g_iinc (pc := 28) (v := (x3 + 1)) (lv0 := [(0, cr E x0)]) hX d_Mx_shape_28 1 rfl rfl (by rw [hN]; decide) (g_st1 (ks := [0]) rfl rfl) ?_
      refine g_goto (pc := 31) (tgt := 12) hX d_Mx_shape_31 (by decide) ?_
      refine g_sub [1, 0] rfl ?_
      exact ih _ _ _ h
set_option maxRecDepth 100000 in
set_option maxHeartbeats 4000000 in
theorem c_Mx_shape (o : Nat) (p1 : Int32) (p2 : Int32) (A : Mem) (K : Mem → Prop) (h : wp_Mx_shape o p1 p2 A K) : CtV y_Mx_shape prog_9_method_2_code 4 0 0 (fun E => [cr E o, .int (p1), .int (p2)]) A K := by
  refine ctV_of "BasicMachine$Matrix" (by decide) rfl (fun E => [(0, cr E o), (1, .int (p1)), (2, .int (p2))]) (fun E => by simp [lg_sl, cr_cat, ca_i, ca_l, ca_d]) (fun E => by simp [lv_args, cr_cat, ca_i, ca_l, ca_d]) (fun X E hX hR hN hQ => ?_)
  unfold wp_Mx_shape at h
  refine g_aload_n (pc := 0) hX d_Mx_shape_0 rfl 0 rfl ?_
  refine g_iload_n (pc := 1) hX d_Mx_shape_1 rfl 1 rfl ?_
  obtain ⟨f1, h⟩ := h
  refine g_putI (pc := 2) hX fl_Mx_15 rfl rfl rfl f1 d_Mx_shape_2 ?_
  refine g_aload_n (pc := 5) hX d_Mx_shape_5 rfl 0 rfl ?_
  refine g_iload_n (pc := 6) hX d_Mx_shape_6 rfl 2 rfl ?_
  refine g_putI (pc := 7) hX fl_Mx_19 rfl rfl rfl f1 d_Mx_shape_7 ?_
  refine g_iconst (pc := 10) (v := 0) hX d_Mx_shape_10 (by decide) ?_
  refine g_istore_n (pc := 11) (lv0 := [(2, .int (p2)), (0, cr E o), (1, .int (p1))]) hX d_Mx_shape_11 rfl (by rw [hN]; decide) (g_st1b (ks := [2, 0, 1]) rfl rfl rfl rfl) ?_
  refine g_sub [2, 0] rfl ?_
  obtain ⟨n9, h⟩ := h
  exact k_Mx_shape_c12 hX hR hN hQ n9 _ _ _ h
def wp_Mx_placeOf (o : Nat) (p1 : Int64) (p3 : Int64) (A : Mem) (K : Int32 → Mem → Prop) : Prop := (((lg_cmp p1 1) < 0 → K (-1) A) ∧ (¬ (lg_cmp p1 1) < 0 → kd o = 7 ∧ ((0 < (lg_cmp p1 (Int32.toInt64 (gI A o 0))) → K (-1) A) ∧ (¬ 0 < (lg_cmp p1 (Int32.toInt64 (gI A o 0))) → (((lg_cmp p3 1) < 0 → K (-1) A) ∧ (¬ (lg_cmp p3 1) < 0 → (((lg_cmp p3 (Int32.toInt64 (gI A o 1))) ≤ 0 → K (((Int64.toInt32 (p1 - 1)) * 6) + (Int64.toInt32 (p3 - 1))) A) ∧ (¬ (lg_cmp p3 (Int32.toInt64 (gI A o 1))) ≤ 0 → K (-1) A))))))))
set_option maxRecDepth 100000 in
set_option maxHeartbeats 4000000 in
theorem c_Mx_placeOf (o : Nat) (p1 : Int64) (p3 : Int64) (A : Mem) (K : Int32 → Mem → Prop) (h : wp_Mx_placeOf o p1 p3 A K) : CtI y_Mx_placeOf prog_9_method_3_code 5 0 0 (fun E => [cr E o, .long (p1), .long (p3)]) A K := by
  refine ctI_of "BasicMachine$Matrix" (by decide) rfl (fun E => [(0, cr E o), (1, .long (p1)), (3, .long (p3))]) (fun E => by simp [lg_sl, cr_cat, ca_i, ca_l, ca_d]) (fun E => by simp [lv_args, cr_cat, ca_i, ca_l, ca_d]) (fun X E hX hR hN hQ => ?_)
  unfold wp_Mx_placeOf at h
  refine g_lload_n (pc := 0) hX d_Mx_placeOf_0 rfl 1 rfl ?_
  refine g_lconst (pc := 1) (v := 1) hX d_Mx_placeOf_1 (by decide) ?_
  refine g_lcmp (pc := 2) hX d_Mx_placeOf_2 ?_
  refine g_if_lt (pc := 3) (tgt := 32) hX d_Mx_placeOf_3 (by decide) (fun q => ?_) (fun q => ?_)
  · have h := h.1 q
    refine g_iconst (pc := 32) (v := (-1)) hX d_Mx_placeOf_32 (by decide) ?_
    exact g_iret hX hQ h d_Mx_placeOf_33
  · have h := h.2 q
    refine g_lload_n (pc := 6) hX d_Mx_placeOf_6 rfl 1 rfl ?_
    refine g_aload_n (pc := 7) hX d_Mx_placeOf_7 rfl 0 rfl ?_
    obtain ⟨f1, h⟩ := h
    refine g_getI (pc := 8) hX fl_Mx_15 rfl f1 d_Mx_placeOf_8 ?_
    refine g_i2l (pc := 11) hX d_Mx_placeOf_11 ?_
    refine g_lcmp (pc := 12) hX d_Mx_placeOf_12 ?_
    refine g_if_gt (pc := 13) (tgt := 32) hX d_Mx_placeOf_13 (by decide) (fun q => ?_) (fun q => ?_)
    · have h := h.1 q
      refine g_iconst (pc := 32) (v := (-1)) hX d_Mx_placeOf_32 (by decide) ?_
      exact g_iret hX hQ h d_Mx_placeOf_33
    · have h := h.2 q
      refine g_lload_n (pc := 16) hX d_Mx_placeOf_16 rfl 2 rfl ?_
      refine g_lconst (pc := 17) (v := 1) hX d_Mx_placeOf_17 (by decide) ?_
      refine g_lcmp (pc := 18) hX d_Mx_placeOf_18 ?_
      refine g_if_lt (pc := 19) (tgt := 32) hX d_Mx_placeOf_19 (by decide) (fun q => ?_) (fun q => ?_)
      · have h := h.1 q
        refine g_iconst (pc := 32) (v := (-1)) hX d_Mx_placeOf_32 (by decide) ?_
        exact g_iret hX hQ h d_Mx_placeOf_33
      · have h := h.2 q
        refine g_lload_n (pc := 22) hX d_Mx_placeOf_22 rfl 2 rfl ?_
        refine g_aload_n (pc := 23) hX d_Mx_placeOf_23 rfl 0 rfl ?_
        refine g_getI (pc := 24) hX fl_Mx_19 rfl f1 d_Mx_placeOf_24 ?_
        refine g_i2l (pc := 27) hX d_Mx_placeOf_27 ?_
        refine g_lcmp (pc := 28) hX d_Mx_placeOf_28 ?_
        refine g_if_le (pc := 29) (tgt := 34) hX d_Mx_placeOf_29 (by decide) (fun q => ?_) (fun q => ?_)
        · have h := h.1 q
          refine g_lload_n (pc := 34) hX d_Mx_placeOf_34 rfl 1 rfl ?_
          refine g_lconst (pc := 35) (v := 1) hX d_Mx_placeOf_35 (by decide) ?_
          refine g_lsub (pc := 36) hX d_Mx_placeOf_36 ?_
          refine g_l2i (pc := 37) hX d_Mx_placeOf_37 ?_
          refine g_bipush (pc := 38) (v := 6) hX d_Mx_placeOf_38 (by decide) ?_
          refine g_imul (pc := 40) hX d_Mx_placeOf_40 ?_
          refine g_lload_n (pc := 41) hX d_Mx_placeOf_41 rfl 2 rfl ?_
          refine g_lconst (pc := 42) (v := 1) hX d_Mx_placeOf_42 (by decide) ?_
          refine g_lsub (pc := 43) hX d_Mx_placeOf_43 ?_
          refine g_l2i (pc := 44) hX d_Mx_placeOf_44 ?_
          refine g_iadd (pc := 45) hX d_Mx_placeOf_45 ?_
          exact g_iret hX hQ h d_Mx_placeOf_46
        · have h := h.2 q
          refine g_iconst (pc := 32) (v := (-1)) hX d_Mx_placeOf_32 (by decide) ?_
          exact g_iret hX hQ h d_Mx_placeOf_33
def wp_Mx_get (o : Nat) (p1 : Int32) (A : Mem) (K : UInt64 → Mem → Prop) : Prop := ((p1 < 0 → K FP.dconst0 A) ∧ (¬ p1 < 0 → kd o = 7 ∧ kd (gR A o 2) = 53 ∧ (((Int32.ofNat (al (gR A o 2))) ≤ p1 → K FP.dconst0 A) ∧ (¬ (Int32.ofNat (al (gR A o 2))) ≤ p1 → vp_in p1 (al (gR A o 2)) ∧ K (gD A (gR A o 2) (Int32.toNatClampNeg p1)) A))))
set_option maxRecDepth 100000 in
set_option maxHeartbeats 4000000 in
theorem c_Mx_get (o : Nat) (p1 : Int32) (A : Mem) (K : UInt64 → Mem → Prop) (h : wp_Mx_get o p1 A K) : CtD y_Mx_get prog_9_method_4_code 2 0 0 (fun E => [cr E o, .int (p1)]) A K := by
  refine ctD_of "BasicMachine$Matrix" (by decide) rfl (fun E => [(0, cr E o), (1, .int (p1))]) (fun E => by simp [lg_sl, cr_cat, ca_i, ca_l, ca_d]) (fun E => by simp [lv_args, cr_cat, ca_i, ca_l, ca_d]) (fun X E hX hR hN hQ => ?_)
  unfold wp_Mx_get at h
  refine g_iload_n (pc := 0) hX d_Mx_get_0 rfl 1 rfl ?_
  refine g_if_lt (pc := 1) (tgt := 22) hX d_Mx_get_1 (by decide) (fun q => ?_) (fun q => ?_)
  · have h := h.1 q
    refine g_dconst0 (pc := 22) hX d_Mx_get_22 ?_
    exact g_dret hX hQ h d_Mx_get_23
  · have h := h.2 q
    refine g_iload_n (pc := 4) hX d_Mx_get_4 rfl 1 rfl ?_
    refine g_aload_n (pc := 5) hX d_Mx_get_5 rfl 0 rfl ?_
    obtain ⟨f1, h⟩ := h
    refine g_getR (pc := 6) hX fl_Mx_9 rfl f1 d_Mx_get_6 ?_
    obtain ⟨f2, h⟩ := h
    refine g_alen (pc := 9) hX f2 (by decide) rfl d_Mx_get_9 ?_
    refine g_icmp_ge (pc := 10) (tgt := 22) hX d_Mx_get_10 (by decide) (fun q => ?_) (fun q => ?_)
    · have h := h.1 q
      refine g_dconst0 (pc := 22) hX d_Mx_get_22 ?_
      exact g_dret hX hQ h d_Mx_get_23
    · have h := h.2 q
      refine g_aload_n (pc := 13) hX d_Mx_get_13 rfl 0 rfl ?_
      refine g_getR (pc := 14) hX fl_Mx_9 rfl f1 d_Mx_get_14 ?_
      refine g_iload_n (pc := 17) hX d_Mx_get_17 rfl 1 rfl ?_
      obtain ⟨f3, h⟩ := h
      refine g_daload (pc := 18) hX f2 f3 d_Mx_get_18 ?_
      refine g_goto (pc := 19) (tgt := 23) hX d_Mx_get_19 (by decide) ?_
      exact g_dret hX hQ h d_Mx_get_23
def wp_Mx_set (o : Nat) (p1 : Int32) (p2 : UInt64) (A : Mem) (K : Mem → Prop) : Prop := ((p1 < 0 → K A) ∧ (¬ p1 < 0 → kd o = 7 ∧ kd (gR A o 2) = 53 ∧ (((Int32.ofNat (al (gR A o 2))) ≤ p1 → K A) ∧ (¬ (Int32.ofNat (al (gR A o 2))) ≤ p1 → vp_in p1 (al (gR A o 2)) ∧ K (sD A (gR A o 2) (Int32.toNatClampNeg p1) p2)))))
set_option maxRecDepth 100000 in
set_option maxHeartbeats 4000000 in
theorem c_Mx_set (o : Nat) (p1 : Int32) (p2 : UInt64) (A : Mem) (K : Mem → Prop) (h : wp_Mx_set o p1 p2 A K) : CtV y_Mx_set prog_9_method_5_code 4 0 0 (fun E => [cr E o, .int (p1), .double (p2)]) A K := by
  refine ctV_of "BasicMachine$Matrix" (by decide) rfl (fun E => [(0, cr E o), (1, .int (p1)), (2, .double (p2))]) (fun E => by simp [lg_sl, cr_cat, ca_i, ca_l, ca_d]) (fun E => by simp [lv_args, cr_cat, ca_i, ca_l, ca_d]) (fun X E hX hR hN hQ => ?_)
  unfold wp_Mx_set at h
  refine g_iload_n (pc := 0) hX d_Mx_set_0 rfl 1 rfl ?_
  refine g_if_lt (pc := 1) (tgt := 20) hX d_Mx_set_1 (by decide) (fun q => ?_) (fun q => ?_)
  · have h := h.1 q
    exact g_vret hX hQ h d_Mx_set_20
  · have h := h.2 q
    refine g_iload_n (pc := 4) hX d_Mx_set_4 rfl 1 rfl ?_
    refine g_aload_n (pc := 5) hX d_Mx_set_5 rfl 0 rfl ?_
    obtain ⟨f1, h⟩ := h
    refine g_getR (pc := 6) hX fl_Mx_9 rfl f1 d_Mx_set_6 ?_
    obtain ⟨f2, h⟩ := h
    refine g_alen (pc := 9) hX f2 (by decide) rfl d_Mx_set_9 ?_
    refine g_icmp_ge (pc := 10) (tgt := 20) hX d_Mx_set_10 (by decide) (fun q => ?_) (fun q => ?_)
    · have h := h.1 q
      exact g_vret hX hQ h d_Mx_set_20
    · have h := h.2 q
      refine g_aload_n (pc := 13) hX d_Mx_set_13 rfl 0 rfl ?_
      refine g_getR (pc := 14) hX fl_Mx_9 rfl f1 d_Mx_set_14 ?_
      refine g_iload_n (pc := 17) hX d_Mx_set_17 rfl 1 rfl ?_
      refine g_dload_n (pc := 18) hX d_Mx_set_18 rfl 2 rfl ?_
      obtain ⟨f3, h⟩ := h
      refine g_dastore (pc := 19) hX f2 f3 d_Mx_set_19 ?_
      exact g_vret hX hQ h d_Mx_set_20
def wp_Mx_become (o : Nat) (p1 : Nat) (A : Mem) (K : Mem → Prop) : Prop := kd p1 = 7 ∧ kd o = 7 ∧ kd (gR (sI (sI A o 0 (gI A p1 0)) o 1 (gI (sI A o 0 (gI A p1 0)) p1 1)) o 2) = 53 ∧ kd (gR (sI (sI A o 0 (gI A p1 0)) o 1 (gI (sI A o 0 (gI A p1 0)) p1 1)) p1 2) = 53 ∧ (¬ (0 : Int32) < 0 ∧ ¬ (0 : Int32) < 0 ∧ ¬ (Int32.ofNat (al (gR (sI (sI A o 0 (gI A p1 0)) o 1 (gI (sI A o 0 (gI A p1 0)) p1 1)) o 2))) < 0 ∧ Int32.toNatClampNeg (0 : Int32) + Int32.toNatClampNeg (Int32.ofNat (al (gR (sI (sI A o 0 (gI A p1 0)) o 1 (gI (sI A o 0 (gI A p1 0)) p1 1)) o 2))) ≤ al (gR (sI (sI A o 0 (gI A p1 0)) o 1 (gI (sI A o 0 (gI A p1 0)) p1 1)) p1 2) ∧ Int32.toNatClampNeg (0 : Int32) + Int32.toNatClampNeg (Int32.ofNat (al (gR (sI (sI A o 0 (gI A p1 0)) o 1 (gI (sI A o 0 (gI A p1 0)) p1 1)) o 2))) ≤ al (gR (sI (sI A o 0 (gI A p1 0)) o 1 (gI (sI A o 0 (gI A p1 0)) p1 1)) o 2)) ∧ ∀ A6 : Mem, A6 = (cpD (sI (sI A o 0 (gI A p1 0)) o 1 (gI (sI A o 0 (gI A p1 0)) p1 1)) (gR (sI (sI A o 0 (gI A p1 0)) o 1 (gI (sI A o 0 (gI A p1 0)) p1 1)) p1 2) 0 (gR (sI (sI A o 0 (gI A p1 0)) o 1 (gI (sI A o 0 (gI A p1 0)) p1 1)) o 2) 0 (Int32.ofNat (al (gR (sI (sI A o 0 (gI A p1 0)) o 1 (gI (sI A o 0 (gI A p1 0)) p1 1)) o 2)))) → K A6
set_option maxRecDepth 100000 in
set_option maxHeartbeats 4000000 in
theorem c_Mx_become (o : Nat) (p1 : Nat) (A : Mem) (K : Mem → Prop) (h : wp_Mx_become o p1 A K) : CtV y_Mx_become prog_9_method_6_code 2 1 300 (fun E => [cr E o, cr E p1]) A K := by
  refine ctV_of "BasicMachine$Matrix" (by decide) rfl (fun E => [(0, cr E o), (1, cr E p1)]) (fun E => by simp [lg_sl, cr_cat, ca_i, ca_l, ca_d]) (fun E => by simp [lv_args, cr_cat, ca_i, ca_l, ca_d]) (fun X E hX hR hN hQ => ?_)
  unfold wp_Mx_become at h
  refine g_aload_n (pc := 0) hX d_Mx_become_0 rfl 0 rfl ?_
  refine g_aload_n (pc := 1) hX d_Mx_become_1 rfl 1 rfl ?_
  obtain ⟨f1, h⟩ := h
  refine g_getI (pc := 2) hX fl_Mx_15 rfl f1 d_Mx_become_2 ?_
  obtain ⟨f2, h⟩ := h
  refine g_putI (pc := 5) hX fl_Mx_15 rfl rfl rfl f2 d_Mx_become_5 ?_
  refine g_aload_n (pc := 8) hX d_Mx_become_8 rfl 0 rfl ?_
  refine g_aload_n (pc := 9) hX d_Mx_become_9 rfl 1 rfl ?_
  refine g_getI (pc := 10) hX fl_Mx_19 rfl f1 d_Mx_become_10 ?_
  refine g_putI (pc := 13) hX fl_Mx_19 rfl rfl rfl f2 d_Mx_become_13 ?_
  refine g_aload_n (pc := 16) hX d_Mx_become_16 rfl 1 rfl ?_
  refine g_getR (pc := 17) hX fl_Mx_9 rfl f1 d_Mx_become_17 ?_
  refine g_iconst (pc := 20) (v := 0) hX d_Mx_become_20 (by decide) ?_
  refine g_aload_n (pc := 21) hX d_Mx_become_21 rfl 0 rfl ?_
  refine g_getR (pc := 22) hX fl_Mx_9 rfl f2 d_Mx_become_22 ?_
  refine g_iconst (pc := 25) (v := 0) hX d_Mx_become_25 (by decide) ?_
  refine g_aload_n (pc := 26) hX d_Mx_become_26 rfl 0 rfl ?_
  refine g_getR (pc := 27) hX fl_Mx_9 rfl f2 d_Mx_become_27 ?_
  obtain ⟨f3, h⟩ := h
  refine g_alen (pc := 30) hX f3 (by decide) rfl d_Mx_become_30 ?_
  obtain ⟨f4, h⟩ := h
  obtain ⟨f5, h⟩ := h
  refine g_acopyD (pc := 31) hX hR lk_Mx_22 acw f4 f3 f5 (by decide) (by decide +kernel) d_Mx_become_31 ?_
  refine g_nm (fun A6 eA6 => ?_)
  have h := h A6 eA6
  exact g_vret hX hQ h d_Mx_become_34
def wp_Mx_isThere (o : Nat) (A : Mem) (K : Bool → Mem → Prop) : Prop := kd o = 7 ∧ (((gI A o 0) ≤ 0 → K false A) ∧ (¬ (gI A o 0) ≤ 0 → K true A))
set_option maxRecDepth 100000 in
set_option maxHeartbeats 4000000 in
theorem c_Mx_isThere (o : Nat) (A : Mem) (K : Bool → Mem → Prop) (h : wp_Mx_isThere o A K) : CtZ y_Mx_isThere prog_9_method_7_code 1 0 0 (fun E => [cr E o]) A K := by
  refine ctZ_of "BasicMachine$Matrix" (by decide) rfl (fun E => [(0, cr E o)]) (fun E => by simp [lg_sl, cr_cat, ca_i, ca_l, ca_d]) (fun E => by simp [lv_args, cr_cat, ca_i, ca_l, ca_d]) (fun X E hX hR hN hQ => ?_)
  unfold wp_Mx_isThere at h
  refine g_aload_n (pc := 0) hX d_Mx_isThere_0 rfl 0 rfl ?_
  obtain ⟨f1, h⟩ := h
  refine g_getI (pc := 1) hX fl_Mx_15 rfl f1 d_Mx_isThere_1 ?_
  refine g_if_le (pc := 4) (tgt := 11) hX d_Mx_isThere_4 (by decide) (fun q => ?_) (fun q => ?_)
  · have h := h.1 q
    refine g_iconst (pc := 11) (v := 0) hX d_Mx_isThere_11 (by decide) ?_
    exact g_zret hX hQ false rfl h d_Mx_isThere_12
  · have h := h.2 q
    refine g_iconst (pc := 7) (v := 1) hX d_Mx_isThere_7 (by decide) ?_
    refine g_goto (pc := 8) (tgt := 12) hX d_Mx_isThere_8 (by decide) ?_
    exact g_zret hX hQ true rfl h d_Mx_isThere_12
def wp_Mx_isSquare (o : Nat) (A : Mem) (K : Bool → Mem → Prop) : Prop := kd o = 7 ∧ ((¬ (gI A o 0) = (gI A o 1) → K false A) ∧ ((gI A o 0) = (gI A o 1) → K true A))
set_option maxRecDepth 100000 in
set_option maxHeartbeats 4000000 in
theorem c_Mx_isSquare (o : Nat) (A : Mem) (K : Bool → Mem → Prop) (h : wp_Mx_isSquare o A K) : CtZ y_Mx_isSquare prog_9_method_8_code 1 0 0 (fun E => [cr E o]) A K := by
  refine ctZ_of "BasicMachine$Matrix" (by decide) rfl (fun E => [(0, cr E o)]) (fun E => by simp [lg_sl, cr_cat, ca_i, ca_l, ca_d]) (fun E => by simp [lv_args, cr_cat, ca_i, ca_l, ca_d]) (fun X E hX hR hN hQ => ?_)
  unfold wp_Mx_isSquare at h
  refine g_aload_n (pc := 0) hX d_Mx_isSquare_0 rfl 0 rfl ?_
  obtain ⟨f1, h⟩ := h
  refine g_getI (pc := 1) hX fl_Mx_15 rfl f1 d_Mx_isSquare_1 ?_
  refine g_aload_n (pc := 4) hX d_Mx_isSquare_4 rfl 0 rfl ?_
  refine g_getI (pc := 5) hX fl_Mx_19 rfl f1 d_Mx_isSquare_5 ?_
  refine g_icmp_ne (pc := 8) (tgt := 15) hX d_Mx_isSquare_8 (by decide) (fun q => ?_) (fun q => ?_)
  · have h := h.1 q
    refine g_iconst (pc := 15) (v := 0) hX d_Mx_isSquare_15 (by decide) ?_
    exact g_zret hX hQ false rfl h d_Mx_isSquare_16
  · have h := h.2 q
    refine g_iconst (pc := 11) (v := 1) hX d_Mx_isSquare_11 (by decide) ?_
    refine g_goto (pc := 12) (tgt := 16) hX d_Mx_isSquare_12 (by decide) ?_
    exact g_zret hX hQ true rfl h d_Mx_isSquare_16
def wp_Mx_isSizedAs (o : Nat) (p1 : Nat) (A : Mem) (K : Bool → Mem → Prop) : Prop := kd o = 7 ∧ kd p1 = 7 ∧ ((¬ (gI A o 0) = (gI A p1 0) → K false A) ∧ ((gI A o 0) = (gI A p1 0) → ((¬ (gI A o 1) = (gI A p1 1) → K false A) ∧ ((gI A o 1) = (gI A p1 1) → K true A))))
set_option maxRecDepth 100000 in
set_option maxHeartbeats 4000000 in
theorem c_Mx_isSizedAs (o : Nat) (p1 : Nat) (A : Mem) (K : Bool → Mem → Prop) (h : wp_Mx_isSizedAs o p1 A K) : CtZ y_Mx_isSizedAs prog_9_method_9_code 2 0 0 (fun E => [cr E o, cr E p1]) A K := by
  refine ctZ_of "BasicMachine$Matrix" (by decide) rfl (fun E => [(0, cr E o), (1, cr E p1)]) (fun E => by simp [lg_sl, cr_cat, ca_i, ca_l, ca_d]) (fun E => by simp [lv_args, cr_cat, ca_i, ca_l, ca_d]) (fun X E hX hR hN hQ => ?_)
  unfold wp_Mx_isSizedAs at h
  refine g_aload_n (pc := 0) hX d_Mx_isSizedAs_0 rfl 0 rfl ?_
  obtain ⟨f1, h⟩ := h
  refine g_getI (pc := 1) hX fl_Mx_15 rfl f1 d_Mx_isSizedAs_1 ?_
  refine g_aload_n (pc := 4) hX d_Mx_isSizedAs_4 rfl 1 rfl ?_
  obtain ⟨f2, h⟩ := h
  refine g_getI (pc := 5) hX fl_Mx_15 rfl f2 d_Mx_isSizedAs_5 ?_
  refine g_icmp_ne (pc := 8) (tgt := 26) hX d_Mx_isSizedAs_8 (by decide) (fun q => ?_) (fun q => ?_)
  · have h := h.1 q
    refine g_iconst (pc := 26) (v := 0) hX d_Mx_isSizedAs_26 (by decide) ?_
    exact g_zret hX hQ false rfl h d_Mx_isSizedAs_27
  · have h := h.2 q
    refine g_aload_n (pc := 11) hX d_Mx_isSizedAs_11 rfl 0 rfl ?_
    refine g_getI (pc := 12) hX fl_Mx_19 rfl f1 d_Mx_isSizedAs_12 ?_
    refine g_aload_n (pc := 15) hX d_Mx_isSizedAs_15 rfl 1 rfl ?_
    refine g_getI (pc := 16) hX fl_Mx_19 rfl f2 d_Mx_isSizedAs_16 ?_
    refine g_icmp_ne (pc := 19) (tgt := 26) hX d_Mx_isSizedAs_19 (by decide) (fun q => ?_) (fun q => ?_)
    · have h := h.1 q
      refine g_iconst (pc := 26) (v := 0) hX d_Mx_isSizedAs_26 (by decide) ?_
      exact g_zret hX hQ false rfl h d_Mx_isSizedAs_27
    · have h := h.2 q
      refine g_iconst (pc := 22) (v := 1) hX d_Mx_isSizedAs_22 (by decide) ?_
      refine g_goto (pc := 23) (tgt := 27) hX d_Mx_isSizedAs_23 (by decide) ?_
      exact g_zret hX hQ true rfl h d_Mx_isSizedAs_27
def wp_Lo_find_c2 (K : Int32 → Mem → Prop) : Nat → Nat → Int32 → Int32 → Mem → Prop
  | 0, _, _, _, _ => False
  | n + 1, x0, x1, x2, A => kd x0 = 8 ∧ (((gI A x0 0) ≤ x2 → K (-1) A) ∧ (¬ (gI A x0 0) ≤ x2 → kd (gR A x0 1) = 51 ∧ (((Int32.ofNat (al (gR A x0 1))) ≤ x2 → K (-1) A) ∧ (¬ (Int32.ofNat (al (gR A x0 1))) ≤ x2 → vp_in x2 (al (gR A x0 1)) ∧ ((¬ (gI A (gR A x0 1) (Int32.toNatClampNeg x2)) = x1 → wp_Lo_find_c2 K n x0 x1 (x2 + 1) A) ∧ ((gI A (gR A x0 1) (Int32.toNatClampNeg x2)) = x1 → K x2 A))))))
def wp_Lo_find (o : Nat) (p1 : Int32) (A : Mem) (K : Int32 → Mem → Prop) : Prop := (∃ n9 : Nat, wp_Lo_find_c2 K n9 o p1 0 A)
set_option maxRecDepth 100000 in
set_option maxHeartbeats 4000000 in
theorem k_Lo_find_c2 {X : CXT} {E : EVT} {K : Int32 → Mem → Prop} (hX : Gd X E "BasicMachine$Loops" prog_7_method_2_code) (hR : Rm X 0 0) (hN : xnL X = 3) (hQ : QI X E K) : ∀ (n : Nat) (x0 : Nat) (x1 : Int32) (x2 : Int32) (A : Mem), wp_Lo_find_c2 K n x0 x1 x2 A → G X E A 2 [(0, cr E x0), (1, .int (x1)), (2, .int (x2))] [] := by
  intro n
  induction n with
  | zero => intro x0 x1 x2 A h; exact h.elim
  | succ n ih =>
    intro x0 x1 x2 A h
    rw [wp_Lo_find_c2] at h
    refine g_iload_n (pc := 2) hX d_Lo_find_2 rfl 2 rfl ?_
    refine g_aload_n (pc := 3) hX d_Lo_find_3 rfl 0 rfl ?_
    obtain ⟨f1, h⟩ := h
    refine g_getI (pc := 4) hX fl_Lo_25 rfl f1 d_Lo_find_4 ?_
    refine g_icmp_ge (pc := 7) (tgt := 37) hX d_Lo_find_7 (by decide) (fun q => ?_) (fun q => ?_)
    · have h := h.1 q
      refine g_iconst (pc := 37) (v := (-1)) hX d_Lo_find_37 (by decide) ?_
      exact g_iret hX hQ h d_Lo_find_38
    · have h := h.2 q
      refine g_iload_n (pc := 10) hX d_Lo_find_10 rfl 2 rfl ?_
      refine g_aload_n (pc := 11) hX d_Lo_find_11 rfl 0 rfl ?_
      refine g_getR (pc := 12) hX fl_Lo_9 rfl f1 d_Lo_find_12 ?_
      obtain ⟨f2, h⟩ := h
      refine g_alen (pc := 15) hX f2 (by decide) rfl d_Lo_find_15 ?_
      refine g_icmp_ge (pc := 16) (tgt := 37) hX d_Lo_find_16 (by decide) (fun q => ?_) (fun q => ?_)
      · have h := h.1 q
        refine g_iconst (pc := 37) (v := (-1)) hX d_Lo_find_37 (by decide) ?_
        exact g_iret hX hQ h d_Lo_find_38
      · have h := h.2 q
        refine g_aload_n (pc := 19) hX d_Lo_find_19 rfl 0 rfl ?_
        refine g_getR (pc := 20) hX fl_Lo_9 rfl f1 d_Lo_find_20 ?_
        refine g_iload_n (pc := 23) hX d_Lo_find_23 rfl 2 rfl ?_
        obtain ⟨f3, h⟩ := h
        refine g_iaload (pc := 24) hX f2 f3 d_Lo_find_24 ?_
        refine g_iload_n (pc := 25) hX d_Lo_find_25 rfl 1 rfl ?_
        refine g_icmp_ne (pc := 26) (tgt := 31) hX d_Lo_find_26 (by decide) (fun q => ?_) (fun q => ?_)
        · have h := h.1 q
          refine g_iinc (pc := 31) (v := (x2 + 1)) (lv0 := [(1, .int (x1)), (0, cr E x0)]) hX d_Lo_find_31 2 rfl rfl (by rw [hN]; decide) (g_st1b (ks := [1, 0]) rfl rfl rfl rfl) ?_
          refine g_goto (pc := 34) (tgt := 2) hX d_Lo_find_34 (by decide) ?_
          refine g_sub [2, 1, 0] rfl ?_
          exact ih _ _ _ _ h
        · have h := h.2 q
          refine g_iload_n (pc := 29) hX d_Lo_find_29 rfl 2 rfl ?_
          exact g_iret hX hQ h d_Lo_find_30
set_option maxRecDepth 100000 in
set_option maxHeartbeats 4000000 in
theorem c_Lo_find (o : Nat) (p1 : Int32) (A : Mem) (K : Int32 → Mem → Prop) (h : wp_Lo_find o p1 A K) : CtI y_Lo_find prog_7_method_2_code 3 0 0 (fun E => [cr E o, .int (p1)]) A K := by
  refine ctI_of "BasicMachine$Loops" (by decide) rfl (fun E => [(0, cr E o), (1, .int (p1))]) (fun E => by simp [lg_sl, cr_cat, ca_i, ca_l, ca_d]) (fun E => by simp [lv_args, cr_cat, ca_i, ca_l, ca_d]) (fun X E hX hR hN hQ => ?_)
  unfold wp_Lo_find at h
  refine g_iconst (pc := 0) (v := 0) hX d_Lo_find_0 (by decide) ?_
  refine g_istore_n (pc := 1) (lv0 := [(1, .int (p1)), (0, cr E o)]) hX d_Lo_find_1 rfl (by rw [hN]; decide) (g_st1b (ks := [1, 0]) rfl rfl rfl rfl) ?_
  refine g_sub [2, 1, 0] rfl ?_
  obtain ⟨n9, h⟩ := h
  exact k_Lo_find_c2 hX hR hN hQ n9 _ _ _ _ h
def wp_Lo_add (o : Nat) (p1 : Int32) (p2 : Int32) (p3 : UInt64) (p5 : UInt64) (A : Mem) (K : Bool → Mem → Prop) : Prop := kd o = 8 ∧ kd (gR A o 1) = 51 ∧ (((gI A o 0) < (Int32.ofNat (al (gR A o 1))) → vp_in (gI A o 0) (al (gR A o 1)) ∧ kd (gR (sI A (gR A o 1) (Int32.toNatClampNeg (gI A o 0)) p1) o 2) = 51 ∧ vp_in (gI (sI A (gR A o 1) (Int32.toNatClampNeg (gI A o 0)) p1) o 0) (al (gR (sI A (gR A o 1) (Int32.toNatClampNeg (gI A o 0)) p1) o 2)) ∧ ∀ A6 : Mem, A6 = (sI (sI A (gR A o 1) (Int32.toNatClampNeg (gI A o 0)) p1) (gR (sI A (gR A o 1) (Int32.toNatClampNeg (gI A o 0)) p1) o 2) (Int32.toNatClampNeg (gI (sI A (gR A o 1) (Int32.toNatClampNeg (gI A o 0)) p1) o 0)) p2) → kd (gR A6 o 3) = 53 ∧ vp_in (gI A6 o 0) (al (gR A6 o 3)) ∧ kd (gR (sD A6 (gR A6 o 3) (Int32.toNatClampNeg (gI A6 o 0)) p3) o 4) = 53 ∧ vp_in (gI (sD A6 (gR A6 o 3) (Int32.toNatClampNeg (gI A6 o 0)) p3) o 0) (al (gR (sD A6 (gR A6 o 3) (Int32.toNatClampNeg (gI A6 o 0)) p3) o 4)) ∧ ∀ A11 : Mem, A11 = (sD (sD A6 (gR A6 o 3) (Int32.toNatClampNeg (gI A6 o 0)) p3) (gR (sD A6 (gR A6 o 3) (Int32.toNatClampNeg (gI A6 o 0)) p3) o 4) (Int32.toNatClampNeg (gI (sD A6 (gR A6 o 3) (Int32.toNatClampNeg (gI A6 o 0)) p3) o 0)) p5) → K true (sI A11 o 0 ((gI A11 o 0) + 1))) ∧ (¬ (gI A o 0) < (Int32.ofNat (al (gR A o 1))) → K false A))
set_option maxRecDepth 100000 in
set_option maxHeartbeats 4000000 in
theorem c_Lo_add (o : Nat) (p1 : Int32) (p2 : Int32) (p3 : UInt64) (p5 : UInt64) (A : Mem) (K : Bool → Mem → Prop) (h : wp_Lo_add o p1 p2 p3 p5 A K) : CtZ y_Lo_add prog_7_method_3_code 7 0 0 (fun E => [cr E o, .int (p1), .int (p2), .double (p3), .double (p5)]) A K := by
  refine ctZ_of "BasicMachine$Loops" (by decide) rfl (fun E => [(0, cr E o), (1, .int (p1)), (2, .int (p2)), (3, .double (p3)), (5, .double (p5))]) (fun E => by simp [lg_sl, cr_cat, ca_i, ca_l, ca_d]) (fun E => by simp [lv_args, cr_cat, ca_i, ca_l, ca_d]) (fun X E hX hR hN hQ => ?_)
  unfold wp_Lo_add at h
  refine g_aload_n (pc := 0) hX d_Lo_add_0 rfl 0 rfl ?_
  obtain ⟨f1, h⟩ := h
  refine g_getI (pc := 1) hX fl_Lo_25 rfl f1 d_Lo_add_1 ?_
  refine g_aload_n (pc := 4) hX d_Lo_add_4 rfl 0 rfl ?_
  refine g_getR (pc := 5) hX fl_Lo_9 rfl f1 d_Lo_add_5 ?_
  obtain ⟨f2, h⟩ := h
  refine g_alen (pc := 8) hX f2 (by decide) rfl d_Lo_add_8 ?_
  refine g_icmp_lt (pc := 9) (tgt := 14) hX d_Lo_add_9 (by decide) (fun q => ?_) (fun q => ?_)
  · have h := h.1 q
    refine g_aload_n (pc := 14) hX d_Lo_add_14 rfl 0 rfl ?_
    refine g_getR (pc := 15) hX fl_Lo_9 rfl f1 d_Lo_add_15 ?_
    refine g_aload_n (pc := 18) hX d_Lo_add_18 rfl 0 rfl ?_
    refine g_getI (pc := 19) hX fl_Lo_25 rfl f1 d_Lo_add_19 ?_
    refine g_iload_n (pc := 22) hX d_Lo_add_22 rfl 1 rfl ?_
    obtain ⟨f3, h⟩ := h
    refine g_iastore (pc := 23) hX f2 f3 d_Lo_add_23 ?_
    refine g_aload_n (pc := 24) hX d_Lo_add_24 rfl 0 rfl ?_
    refine g_getR (pc := 25) hX fl_Lo_15 rfl f1 d_Lo_add_25 ?_
    refine g_aload_n (pc := 28) hX d_Lo_add_28 rfl 0 rfl ?_
    refine g_getI (pc := 29) hX fl_Lo_25 rfl f1 d_Lo_add_29 ?_
    refine g_iload_n (pc := 32) hX d_Lo_add_32 rfl 2 rfl ?_
    obtain ⟨f4, h⟩ := h
    obtain ⟨f5, h⟩ := h
    refine g_iastore (pc := 33) hX f4 f5 d_Lo_add_33 ?_
    refine g_nm (fun A6 eA6 => ?_)
    have h := h A6 eA6
    refine g_aload_n (pc := 34) hX d_Lo_add_34 rfl 0 rfl ?_
    refine g_getR (pc := 35) hX fl_Lo_18 rfl f1 d_Lo_add_35 ?_
    refine g_aload_n (pc := 38) hX d_Lo_add_38 rfl 0 rfl ?_
    refine g_getI (pc := 39) hX fl_Lo_25 rfl f1 d_Lo_add_39 ?_
    refine g_dload_n (pc := 42) hX d_Lo_add_42 rfl 3 rfl ?_
    obtain ⟨f7, h⟩ := h
    obtain ⟨f8, h⟩ := h
    refine g_dastore (pc := 43) hX f7 f8 d_Lo_add_43 ?_
    refine g_aload_n (pc := 44) hX d_Lo_add_44 rfl 0 rfl ?_
    refine g_getR (pc := 45) hX fl_Lo_22 rfl f1 d_Lo_add_45 ?_
    refine g_aload_n (pc := 48) hX d_Lo_add_48 rfl 0 rfl ?_
    refine g_getI (pc := 49) hX fl_Lo_25 rfl f1 d_Lo_add_49 ?_
    refine g_dload (pc := 52) hX d_Lo_add_52 4 rfl ?_
    obtain ⟨f9, h⟩ := h
    obtain ⟨f10, h⟩ := h
    refine g_dastore (pc := 54) hX f9 f10 d_Lo_add_54 ?_
    refine g_nm (fun A11 eA11 => ?_)
    have h := h A11 eA11
    refine g_aload_n (pc := 55) hX d_Lo_add_55 rfl 0 rfl ?_
    refine g_dup (pc := 56) hX d_Lo_add_56 (cr_cat _ _) ?_
    refine g_getI (pc := 57) hX fl_Lo_25 rfl f1 d_Lo_add_57 ?_
    refine g_iconst (pc := 60) (v := 1) hX d_Lo_add_60 (by decide) ?_
    refine g_iadd (pc := 61) hX d_Lo_add_61 ?_
    refine g_putI (pc := 62) hX fl_Lo_25 rfl rfl rfl f1 d_Lo_add_62 ?_
    refine g_iconst (pc := 65) (v := 1) hX d_Lo_add_65 (by decide) ?_
    exact g_zret hX hQ true rfl h d_Lo_add_66
  · have h := h.2 q
    refine g_iconst (pc := 12) (v := 0) hX d_Lo_add_12 (by decide) ?_
    exact g_zret hX hQ false rfl h d_Lo_add_13
def wp_Lo_placeOf (o : Nat) (p1 : Int32) (A : Mem) (K : Int32 → Mem → Prop) : Prop := ((p1 < 0 → K (-1) A) ∧ (¬ p1 < 0 → kd o = 8 ∧ kd (gR A o 2) = 51 ∧ (((Int32.ofNat (al (gR A o 2))) ≤ p1 → K (-1) A) ∧ (¬ (Int32.ofNat (al (gR A o 2))) ≤ p1 → vp_in p1 (al (gR A o 2)) ∧ K (gI A (gR A o 2) (Int32.toNatClampNeg p1)) A))))
set_option maxRecDepth 100000 in
set_option maxHeartbeats 4000000 in
theorem c_Lo_placeOf (o : Nat) (p1 : Int32) (A : Mem) (K : Int32 → Mem → Prop) (h : wp_Lo_placeOf o p1 A K) : CtI y_Lo_placeOf prog_7_method_4_code 2 0 0 (fun E => [cr E o, .int (p1)]) A K := by
  refine ctI_of "BasicMachine$Loops" (by decide) rfl (fun E => [(0, cr E o), (1, .int (p1))]) (fun E => by simp [lg_sl, cr_cat, ca_i, ca_l, ca_d]) (fun E => by simp [lv_args, cr_cat, ca_i, ca_l, ca_d]) (fun X E hX hR hN hQ => ?_)
  unfold wp_Lo_placeOf at h
  refine g_iload_n (pc := 0) hX d_Lo_placeOf_0 rfl 1 rfl ?_
  refine g_if_lt (pc := 1) (tgt := 22) hX d_Lo_placeOf_1 (by decide) (fun q => ?_) (fun q => ?_)
  · have h := h.1 q
    refine g_iconst (pc := 22) (v := (-1)) hX d_Lo_placeOf_22 (by decide) ?_
    exact g_iret hX hQ h d_Lo_placeOf_23
  · have h := h.2 q
    refine g_iload_n (pc := 4) hX d_Lo_placeOf_4 rfl 1 rfl ?_
    refine g_aload_n (pc := 5) hX d_Lo_placeOf_5 rfl 0 rfl ?_
    obtain ⟨f1, h⟩ := h
    refine g_getR (pc := 6) hX fl_Lo_15 rfl f1 d_Lo_placeOf_6 ?_
    obtain ⟨f2, h⟩ := h
    refine g_alen (pc := 9) hX f2 (by decide) rfl d_Lo_placeOf_9 ?_
    refine g_icmp_ge (pc := 10) (tgt := 22) hX d_Lo_placeOf_10 (by decide) (fun q => ?_) (fun q => ?_)
    · have h := h.1 q
      refine g_iconst (pc := 22) (v := (-1)) hX d_Lo_placeOf_22 (by decide) ?_
      exact g_iret hX hQ h d_Lo_placeOf_23
    · have h := h.2 q
      refine g_aload_n (pc := 13) hX d_Lo_placeOf_13 rfl 0 rfl ?_
      refine g_getR (pc := 14) hX fl_Lo_15 rfl f1 d_Lo_placeOf_14 ?_
      refine g_iload_n (pc := 17) hX d_Lo_placeOf_17 rfl 1 rfl ?_
      obtain ⟨f3, h⟩ := h
      refine g_iaload (pc := 18) hX f2 f3 d_Lo_placeOf_18 ?_
      refine g_goto (pc := 19) (tgt := 23) hX d_Lo_placeOf_19 (by decide) ?_
      exact g_iret hX hQ h d_Lo_placeOf_23
def wp_Lo_limitOf (o : Nat) (p1 : Int32) (A : Mem) (K : UInt64 → Mem → Prop) : Prop := ((p1 < 0 → K FP.dconst0 A) ∧ (¬ p1 < 0 → kd o = 8 ∧ kd (gR A o 3) = 53 ∧ (((Int32.ofNat (al (gR A o 3))) ≤ p1 → K FP.dconst0 A) ∧ (¬ (Int32.ofNat (al (gR A o 3))) ≤ p1 → vp_in p1 (al (gR A o 3)) ∧ K (gD A (gR A o 3) (Int32.toNatClampNeg p1)) A))))
set_option maxRecDepth 100000 in
set_option maxHeartbeats 4000000 in
theorem c_Lo_limitOf (o : Nat) (p1 : Int32) (A : Mem) (K : UInt64 → Mem → Prop) (h : wp_Lo_limitOf o p1 A K) : CtD y_Lo_limitOf prog_7_method_5_code 2 0 0 (fun E => [cr E o, .int (p1)]) A K := by
  refine ctD_of "BasicMachine$Loops" (by decide) rfl (fun E => [(0, cr E o), (1, .int (p1))]) (fun E => by simp [lg_sl, cr_cat, ca_i, ca_l, ca_d]) (fun E => by simp [lv_args, cr_cat, ca_i, ca_l, ca_d]) (fun X E hX hR hN hQ => ?_)
  unfold wp_Lo_limitOf at h
  refine g_iload_n (pc := 0) hX d_Lo_limitOf_0 rfl 1 rfl ?_
  refine g_if_lt (pc := 1) (tgt := 22) hX d_Lo_limitOf_1 (by decide) (fun q => ?_) (fun q => ?_)
  · have h := h.1 q
    refine g_dconst0 (pc := 22) hX d_Lo_limitOf_22 ?_
    exact g_dret hX hQ h d_Lo_limitOf_23
  · have h := h.2 q
    refine g_iload_n (pc := 4) hX d_Lo_limitOf_4 rfl 1 rfl ?_
    refine g_aload_n (pc := 5) hX d_Lo_limitOf_5 rfl 0 rfl ?_
    obtain ⟨f1, h⟩ := h
    refine g_getR (pc := 6) hX fl_Lo_18 rfl f1 d_Lo_limitOf_6 ?_
    obtain ⟨f2, h⟩ := h
    refine g_alen (pc := 9) hX f2 (by decide) rfl d_Lo_limitOf_9 ?_
    refine g_icmp_ge (pc := 10) (tgt := 22) hX d_Lo_limitOf_10 (by decide) (fun q => ?_) (fun q => ?_)
    · have h := h.1 q
      refine g_dconst0 (pc := 22) hX d_Lo_limitOf_22 ?_
      exact g_dret hX hQ h d_Lo_limitOf_23
    · have h := h.2 q
      refine g_aload_n (pc := 13) hX d_Lo_limitOf_13 rfl 0 rfl ?_
      refine g_getR (pc := 14) hX fl_Lo_18 rfl f1 d_Lo_limitOf_14 ?_
      refine g_iload_n (pc := 17) hX d_Lo_limitOf_17 rfl 1 rfl ?_
      obtain ⟨f3, h⟩ := h
      refine g_daload (pc := 18) hX f2 f3 d_Lo_limitOf_18 ?_
      refine g_goto (pc := 19) (tgt := 23) hX d_Lo_limitOf_19 (by decide) ?_
      exact g_dret hX hQ h d_Lo_limitOf_23
def wp_Lo_stepOf (o : Nat) (p1 : Int32) (A : Mem) (K : UInt64 → Mem → Prop) : Prop := ((p1 < 0 → K FP.dconst0 A) ∧ (¬ p1 < 0 → kd o = 8 ∧ kd (gR A o 4) = 53 ∧ (((Int32.ofNat (al (gR A o 4))) ≤ p1 → K FP.dconst0 A) ∧ (¬ (Int32.ofNat (al (gR A o 4))) ≤ p1 → vp_in p1 (al (gR A o 4)) ∧ K (gD A (gR A o 4) (Int32.toNatClampNeg p1)) A))))
set_option maxRecDepth 100000 in
set_option maxHeartbeats 4000000 in
theorem c_Lo_stepOf (o : Nat) (p1 : Int32) (A : Mem) (K : UInt64 → Mem → Prop) (h : wp_Lo_stepOf o p1 A K) : CtD y_Lo_stepOf prog_7_method_6_code 2 0 0 (fun E => [cr E o, .int (p1)]) A K := by
  refine ctD_of "BasicMachine$Loops" (by decide) rfl (fun E => [(0, cr E o), (1, .int (p1))]) (fun E => by simp [lg_sl, cr_cat, ca_i, ca_l, ca_d]) (fun E => by simp [lv_args, cr_cat, ca_i, ca_l, ca_d]) (fun X E hX hR hN hQ => ?_)
  unfold wp_Lo_stepOf at h
  refine g_iload_n (pc := 0) hX d_Lo_stepOf_0 rfl 1 rfl ?_
  refine g_if_lt (pc := 1) (tgt := 22) hX d_Lo_stepOf_1 (by decide) (fun q => ?_) (fun q => ?_)
  · have h := h.1 q
    refine g_dconst0 (pc := 22) hX d_Lo_stepOf_22 ?_
    exact g_dret hX hQ h d_Lo_stepOf_23
  · have h := h.2 q
    refine g_iload_n (pc := 4) hX d_Lo_stepOf_4 rfl 1 rfl ?_
    refine g_aload_n (pc := 5) hX d_Lo_stepOf_5 rfl 0 rfl ?_
    obtain ⟨f1, h⟩ := h
    refine g_getR (pc := 6) hX fl_Lo_22 rfl f1 d_Lo_stepOf_6 ?_
    obtain ⟨f2, h⟩ := h
    refine g_alen (pc := 9) hX f2 (by decide) rfl d_Lo_stepOf_9 ?_
    refine g_icmp_ge (pc := 10) (tgt := 22) hX d_Lo_stepOf_10 (by decide) (fun q => ?_) (fun q => ?_)
    · have h := h.1 q
      refine g_dconst0 (pc := 22) hX d_Lo_stepOf_22 ?_
      exact g_dret hX hQ h d_Lo_stepOf_23
    · have h := h.2 q
      refine g_aload_n (pc := 13) hX d_Lo_stepOf_13 rfl 0 rfl ?_
      refine g_getR (pc := 14) hX fl_Lo_22 rfl f1 d_Lo_stepOf_14 ?_
      refine g_iload_n (pc := 17) hX d_Lo_stepOf_17 rfl 1 rfl ?_
      obtain ⟨f3, h⟩ := h
      refine g_daload (pc := 18) hX f2 f3 d_Lo_stepOf_18 ?_
      refine g_goto (pc := 19) (tgt := 23) hX d_Lo_stepOf_19 (by decide) ?_
      exact g_dret hX hQ h d_Lo_stepOf_23
def wp_Pr_lineAt (o : Nat) (p1 : Int32) (A : Mem) (K : Nat → Mem → Prop) : Prop := ((p1 < 0 → K 0 A) ∧ (¬ p1 < 0 → kd o = 5 ∧ (((gI A o 0) ≤ p1 → K 0 A) ∧ (¬ (gI A o 0) ≤ p1 → kd (gR A o 1) = 55 ∧ (((Int32.ofNat (al (gR A o 1))) ≤ p1 → K 0 A) ∧ (¬ (Int32.ofNat (al (gR A o 1))) ≤ p1 → vp_in p1 (al (gR A o 1)) ∧ K (gR A (gR A o 1) (Int32.toNatClampNeg p1)) A))))))
set_option maxRecDepth 100000 in
set_option maxHeartbeats 4000000 in
theorem c_Pr_lineAt (o : Nat) (p1 : Int32) (A : Mem) (K : Nat → Mem → Prop) (h : wp_Pr_lineAt o p1 A K) : CtR y_Pr_lineAt prog_11_method_2_code 2 (.object "BasicMachine$Line") 0 0 (fun E => [cr E o, .int (p1)]) A K := by
  refine ctR_of "BasicMachine$Program" (by decide) rfl (Or.inl ⟨_, rfl⟩) (fun E => [(0, cr E o), (1, .int (p1))]) (fun E => by simp [lg_sl, cr_cat, ca_i, ca_l, ca_d]) (fun E => by simp [lv_args, cr_cat, ca_i, ca_l, ca_d]) (fun X E hX hR hN hQ => ?_)
  unfold wp_Pr_lineAt at h
  refine g_iload_n (pc := 0) hX d_Pr_lineAt_0 rfl 1 rfl ?_
  refine g_if_lt (pc := 1) (tgt := 30) hX d_Pr_lineAt_1 (by decide) (fun q => ?_) (fun q => ?_)
  · have h := h.1 q
    refine g_null (pc := 30) hX d_Pr_lineAt_30 ?_
    exact g_aret hX hQ h d_Pr_lineAt_31
  · have h := h.2 q
    refine g_iload_n (pc := 4) hX d_Pr_lineAt_4 rfl 1 rfl ?_
    refine g_aload_n (pc := 5) hX d_Pr_lineAt_5 rfl 0 rfl ?_
    obtain ⟨f1, h⟩ := h
    refine g_getI (pc := 6) hX fl_Pr_18 rfl f1 d_Pr_lineAt_6 ?_
    refine g_icmp_ge (pc := 9) (tgt := 30) hX d_Pr_lineAt_9 (by decide) (fun q => ?_) (fun q => ?_)
    · have h := h.1 q
      refine g_null (pc := 30) hX d_Pr_lineAt_30 ?_
      exact g_aret hX hQ h d_Pr_lineAt_31
    · have h := h.2 q
      refine g_iload_n (pc := 12) hX d_Pr_lineAt_12 rfl 1 rfl ?_
      refine g_aload_n (pc := 13) hX d_Pr_lineAt_13 rfl 0 rfl ?_
      refine g_getR (pc := 14) hX fl_Pr_11 rfl f1 d_Pr_lineAt_14 ?_
      obtain ⟨f2, h⟩ := h
      refine g_alen (pc := 17) hX f2 (by decide) rfl d_Pr_lineAt_17 ?_
      refine g_icmp_ge (pc := 18) (tgt := 30) hX d_Pr_lineAt_18 (by decide) (fun q => ?_) (fun q => ?_)
      · have h := h.1 q
        refine g_null (pc := 30) hX d_Pr_lineAt_30 ?_
        exact g_aret hX hQ h d_Pr_lineAt_31
      · have h := h.2 q
        refine g_aload_n (pc := 21) hX d_Pr_lineAt_21 rfl 0 rfl ?_
        refine g_getR (pc := 22) hX fl_Pr_11 rfl f1 d_Pr_lineAt_22 ?_
        refine g_iload_n (pc := 25) hX d_Pr_lineAt_25 rfl 1 rfl ?_
        obtain ⟨f3, h⟩ := h
        refine g_aaload (pc := 26) hX f2 f3 d_Pr_lineAt_26 ?_
        refine g_goto (pc := 27) (tgt := 31) hX d_Pr_lineAt_27 (by decide) ?_
        exact g_aret hX hQ h d_Pr_lineAt_31
def wp_Pr_numberOf (o : Nat) (p1 : Int32) (A : Mem) (K : Int32 → Mem → Prop) : Prop := kd o = 5 ∧ wp_Pr_lineAt o p1 A (fun (r2 : Nat) (A1 : Mem) => ((¬ r2 = 0 → kd r2 = 3 ∧ K (gI A1 r2 0) A1) ∧ (r2 = 0 → K (-1) A1)))
set_option maxRecDepth 100000 in
set_option maxHeartbeats 4000000 in
theorem c_Pr_numberOf (o : Nat) (p1 : Int32) (A : Mem) (K : Int32 → Mem → Prop) (h : wp_Pr_numberOf o p1 A K) : CtI y_Pr_numberOf prog_11_method_3_code 3 1 21 (fun E => [cr E o, .int (p1)]) A K := by
  refine ctI_of "BasicMachine$Program" (by decide) rfl (fun E => [(0, cr E o), (1, .int (p1))]) (fun E => by simp [lg_sl, cr_cat, ca_i, ca_l, ca_d]) (fun E => by simp [lv_args, cr_cat, ca_i, ca_l, ca_d]) (fun X E hX hR hN hQ => ?_)
  unfold wp_Pr_numberOf at h
  refine g_aload_n (pc := 0) hX d_Pr_numberOf_0 rfl 0 rfl ?_
  refine g_iload_n (pc := 1) hX d_Pr_numberOf_1 rfl 1 rfl ?_
  obtain ⟨f3, h⟩ := h
  refine g_callV_R (pc := 2) hX hR f3 cf5 rfl lk_Pr_22 mf_Pr_lineAt (c_Pr_lineAt _ _ _ _ h) rfl rfl rfl ⟨by decide, by decide⟩ (cat_sum _ (Nat.le_of_ble_eq_true rfl)) d_Pr_numberOf_2 (fun r2 A1 h => ?_)
  refine g_astore_n (pc := 5) (lv0 := [(1, .int (p1)), (0, cr E o)]) hX d_Pr_numberOf_5 rfl (by rw [hN]; decide) (g_st1b (ks := [1, 0]) rfl rfl rfl rfl) ?_
  refine g_aload_n (pc := 6) hX d_Pr_numberOf_6 rfl 0 rfl ?_
  refine g_ifnonnull (pc := 7) (tgt := 14) hX d_Pr_numberOf_7 (by decide) (fun q => ?_) (fun q => ?_)
  · have h := h.1 q
    refine g_aload_n (pc := 14) hX d_Pr_numberOf_14 rfl 0 rfl ?_
    obtain ⟨f4, h⟩ := h
    refine g_getI (pc := 15) hX fl_Pr_26 rfl f4 d_Pr_numberOf_15 ?_
    exact g_iret hX hQ h d_Pr_numberOf_18
  · have h := h.2 q
    refine g_iconst (pc := 10) (v := (-1)) hX d_Pr_numberOf_10 (by decide) ?_
    refine g_goto (pc := 11) (tgt := 18) hX d_Pr_numberOf_11 (by decide) ?_
    exact g_iret hX hQ h d_Pr_numberOf_18
def wp_Pr_find_c2 (K : Int32 → Mem → Prop) : Nat → Nat → Int32 → Int32 → Mem → Prop
  | 0, _, _, _, _ => False
  | n + 1, x0, x1, x2, A => kd x0 = 5 ∧ (((gI A x0 0) ≤ x2 → K (-1) A) ∧ (¬ (gI A x0 0) ≤ x2 → wp_Pr_numberOf x0 x2 A (fun (r3 : Int32) (A2 : Mem) => ((¬ r3 = x1 → wp_Pr_find_c2 K n x0 x1 (x2 + 1) A2) ∧ (r3 = x1 → K x2 A2)))))
def wp_Pr_find (o : Nat) (p1 : Int32) (A : Mem) (K : Int32 → Mem → Prop) : Prop := (∃ n9 : Nat, wp_Pr_find_c2 K n9 o p1 0 A)
set_option maxRecDepth 100000 in
set_option maxHeartbeats 4000000 in
theorem k_Pr_find_c2 {X : CXT} {E : EVT} {K : Int32 → Mem → Prop} (hX : Gd X E "BasicMachine$Program" prog_11_method_4_code) (hR : Rm X 2 43) (hN : xnL X = 3) (hQ : QI X E K) : ∀ (n : Nat) (x0 : Nat) (x1 : Int32) (x2 : Int32) (A : Mem), wp_Pr_find_c2 K n x0 x1 x2 A → G X E A 2 [(0, cr E x0), (1, .int (x1)), (2, .int (x2))] [] := by
  intro n
  induction n with
  | zero => intro x0 x1 x2 A h; exact h.elim
  | succ n ih =>
    intro x0 x1 x2 A h
    rw [wp_Pr_find_c2] at h
    refine g_iload_n (pc := 2) hX d_Pr_find_2 rfl 2 rfl ?_
    refine g_aload_n (pc := 3) hX d_Pr_find_3 rfl 0 rfl ?_
    obtain ⟨f1, h⟩ := h
    refine g_getI (pc := 4) hX fl_Pr_18 rfl f1 d_Pr_find_4 ?_
    refine g_icmp_ge (pc := 7) (tgt := 27) hX d_Pr_find_7 (by decide) (fun q => ?_) (fun q => ?_)
    · have h := h.1 q
      refine g_iconst (pc := 27) (v := (-1)) hX d_Pr_find_27 (by decide) ?_
      exact g_iret hX hQ h d_Pr_find_28
    · have h := h.2 q
      refine g_aload_n (pc := 10) hX d_Pr_find_10 rfl 0 rfl ?_
      refine g_iload_n (pc := 11) hX d_Pr_find_11 rfl 2 rfl ?_
      refine g_callV_I (pc := 12) hX hR f1 cf5 rfl lk_Pr_29 mf_Pr_numberOf (c_Pr_numberOf _ _ _ _ h) rfl rfl rfl ⟨by decide, by decide⟩ (cat_sum _ (Nat.le_of_ble_eq_true rfl)) d_Pr_find_12 (fun r3 A2 h => ?_)
      refine g_iload_n (pc := 15) hX d_Pr_find_15 rfl 1 rfl ?_
      refine g_icmp_ne (pc := 16) (tgt := 21) hX d_Pr_find_16 (by decide) (fun q => ?_) (fun q => ?_)
      · have h := h.1 q
        refine g_iinc (pc := 21) (v := (x2 + 1)) (lv0 := [(1, .int (x1)), (0, cr E x0)]) hX d_Pr_find_21 2 rfl rfl (by rw [hN]; decide) (g_st1b (ks := [1, 0]) rfl rfl rfl rfl) ?_
        refine g_goto (pc := 24) (tgt := 2) hX d_Pr_find_24 (by decide) ?_
        refine g_sub [2, 1, 0] rfl ?_
        exact ih _ _ _ _ h
      · have h := h.2 q
        refine g_iload_n (pc := 19) hX d_Pr_find_19 rfl 2 rfl ?_
        exact g_iret hX hQ h d_Pr_find_20
set_option maxRecDepth 100000 in
set_option maxHeartbeats 4000000 in
theorem c_Pr_find (o : Nat) (p1 : Int32) (A : Mem) (K : Int32 → Mem → Prop) (h : wp_Pr_find o p1 A K) : CtI y_Pr_find prog_11_method_4_code 3 2 43 (fun E => [cr E o, .int (p1)]) A K := by
  refine ctI_of "BasicMachine$Program" (by decide) rfl (fun E => [(0, cr E o), (1, .int (p1))]) (fun E => by simp [lg_sl, cr_cat, ca_i, ca_l, ca_d]) (fun E => by simp [lv_args, cr_cat, ca_i, ca_l, ca_d]) (fun X E hX hR hN hQ => ?_)
  unfold wp_Pr_find at h
  refine g_iconst (pc := 0) (v := 0) hX d_Pr_find_0 (by decide) ?_
  refine g_istore_n (pc := 1) (lv0 := [(1, .int (p1)), (0, cr E o)]) hX d_Pr_find_1 rfl (by rw [hN]; decide) (g_st1b (ks := [1, 0]) rfl rfl rfl rfl) ?_
  refine g_sub [2, 1, 0] rfl ?_
  obtain ⟨n9, h⟩ := h
  exact k_Pr_find_c2 hX hR hN hQ n9 _ _ _ _ h
def wp_Pr_placeFor_c2 (K : Int32 → Mem → Prop) : Nat → Nat → Int32 → Int32 → Mem → Prop
  | 0, _, _, _, _ => False
  | n + 1, x0, x1, x2, A => kd x0 = 5 ∧ (((gI A x0 0) ≤ x2 → K x2 A) ∧ (¬ (gI A x0 0) ≤ x2 → wp_Pr_numberOf x0 x2 A (fun (r3 : Int32) (A2 : Mem) => ((x1 ≤ r3 → K x2 A2) ∧ (¬ x1 ≤ r3 → wp_Pr_placeFor_c2 K n x0 x1 (x2 + 1) A2)))))
def wp_Pr_placeFor (o : Nat) (p1 : Int32) (A : Mem) (K : Int32 → Mem → Prop) : Prop := (∃ n9 : Nat, wp_Pr_placeFor_c2 K n9 o p1 0 A)
set_option maxRecDepth 100000 in
set_option maxHeartbeats 4000000 in
theorem k_Pr_placeFor_c2 {X : CXT} {E : EVT} {K : Int32 → Mem → Prop} (hX : Gd X E "BasicMachine$Program" prog_11_method_5_code) (hR : Rm X 2 43) (hN : xnL X = 3) (hQ : QI X E K) : ∀ (n : Nat) (x0 : Nat) (x1 : Int32) (x2 : Int32) (A : Mem), wp_Pr_placeFor_c2 K n x0 x1 x2 A → G X E A 2 [(0, cr E x0), (1, .int (x1)), (2, .int (x2))] [] := by
  intro n
  induction n with
  | zero => intro x0 x1 x2 A h; exact h.elim
  | succ n ih =>
    intro x0 x1 x2 A h
    rw [wp_Pr_placeFor_c2] at h
    refine g_iload_n (pc := 2) hX d_Pr_placeFor_2 rfl 2 rfl ?_
    refine g_aload_n (pc := 3) hX d_Pr_placeFor_3 rfl 0 rfl ?_
    obtain ⟨f1, h⟩ := h
    refine g_getI (pc := 4) hX fl_Pr_18 rfl f1 d_Pr_placeFor_4 ?_
    refine g_icmp_ge (pc := 7) (tgt := 25) hX d_Pr_placeFor_7 (by decide) (fun q => ?_) (fun q => ?_)
    · have h := h.1 q
      refine g_iload_n (pc := 25) hX d_Pr_placeFor_25 rfl 2 rfl ?_
      exact g_iret hX hQ h d_Pr_placeFor_26
    · have h := h.2 q
      refine g_aload_n (pc := 10) hX d_Pr_placeFor_10 rfl 0 rfl ?_
      refine g_iload_n (pc := 11) hX d_Pr_placeFor_11 rfl 2 rfl ?_
      refine g_callV_I (pc := 12) hX hR f1 cf5 rfl lk_Pr_29 mf_Pr_numberOf (c_Pr_numberOf _ _ _ _ h) rfl rfl rfl ⟨by decide, by decide⟩ (cat_sum _ (Nat.le_of_ble_eq_true rfl)) d_Pr_placeFor_12 (fun r3 A2 h => ?_)
      refine g_iload_n (pc := 15) hX d_Pr_placeFor_15 rfl 1 rfl ?_
      refine g_icmp_ge (pc := 16) (tgt := 25) hX d_Pr_placeFor_16 (by decide) (fun q => ?_) (fun q => ?_)
      · have h := h.1 q
        refine g_iload_n (pc := 25) hX d_Pr_placeFor_25 rfl 2 rfl ?_
        exact g_iret hX hQ h d_Pr_placeFor_26
      · have h := h.2 q
        refine g_iinc (pc := 19) (v := (x2 + 1)) (lv0 := [(1, .int (x1)), (0, cr E x0)]) hX d_Pr_placeFor_19 2 rfl rfl (by rw [hN]; decide) (g_st1b (ks := [1, 0]) rfl rfl rfl rfl) ?_
        refine g_goto (pc := 22) (tgt := 2) hX d_Pr_placeFor_22 (by decide) ?_
        refine g_sub [2, 1, 0] rfl ?_
        exact ih _ _ _ _ h
set_option maxRecDepth 100000 in
set_option maxHeartbeats 4000000 in
theorem c_Pr_placeFor (o : Nat) (p1 : Int32) (A : Mem) (K : Int32 → Mem → Prop) (h : wp_Pr_placeFor o p1 A K) : CtI y_Pr_placeFor prog_11_method_5_code 3 2 43 (fun E => [cr E o, .int (p1)]) A K := by
  refine ctI_of "BasicMachine$Program" (by decide) rfl (fun E => [(0, cr E o), (1, .int (p1))]) (fun E => by simp [lg_sl, cr_cat, ca_i, ca_l, ca_d]) (fun E => by simp [lv_args, cr_cat, ca_i, ca_l, ca_d]) (fun X E hX hR hN hQ => ?_)
  unfold wp_Pr_placeFor at h
  refine g_iconst (pc := 0) (v := 0) hX d_Pr_placeFor_0 (by decide) ?_
  refine g_istore_n (pc := 1) (lv0 := [(1, .int (p1)), (0, cr E o)]) hX d_Pr_placeFor_1 rfl (by rw [hN]; decide) (g_st1b (ks := [1, 0]) rfl rfl rfl rfl) ?_
  refine g_sub [2, 1, 0] rfl ?_
  obtain ⟨n9, h⟩ := h
  exact k_Pr_placeFor_c2 hX hR hN hQ n9 _ _ _ _ h
def wp_Pr_put_c70 (K : Nat → Mem → Prop) : Nat → Nat → Nat → Int32 → Nat → Int32 → Mem → Prop
  | 0, _, _, _, _, _, _ => False
  | n + 1, x0, x1, x2, x4, x5, A => ((x5 ≤ x2 → kd x0 = 5 ∧ kd (gR A x0 1) = 55 ∧ vp_in x2 (al (gR A x0 1)) ∧ (x1 = 0 ∨ kd x1 = 3) ∧ ∀ A18 : Mem, A18 = (sI (sR A (gR A x0 1) (Int32.toNatClampNeg x2) x1) x0 0 ((gI (sR A (gR A x0 1) (Int32.toNatClampNeg x2) x1) x0 0) + 1)) → K x4 A18) ∧ (¬ x5 ≤ x2 → kd x0 = 5 ∧ kd (gR A x0 1) = 55 ∧ vp_in (x5 - 1) (al (gR A x0 1)) ∧ vp_in x5 (al (gR A x0 1)) ∧ ((gR A (gR A x0 1) (Int32.toNatClampNeg (x5 - 1))) = 0 ∨ kd (gR A (gR A x0 1) (Int32.toNatClampNeg (x5 - 1))) = 3) ∧ wp_Pr_put_c70 K n x0 x1 x2 x4 (x5 + (-1)) (sR A (gR A x0 1) (Int32.toNatClampNeg x5) (gR A (gR A x0 1) (Int32.toNatClampNeg (x5 - 1))))))
def wp_Pr_put_c39 (K : Nat → Mem → Prop) (x0 : Nat) (x1 : Nat) (x2 : Int32) (A : Mem) : Prop := kd x0 = 5 ∧ kd (gR A x0 1) = 55 ∧ (((gI A x0 0) < (Int32.ofNat (al (gR A x0 1))) → vp_in (gI A x0 0) (al (gR A x0 1)) ∧ (∃ n9 : Nat, wp_Pr_put_c70 K n9 x0 x1 x2 (gR A (gR A x0 1) (Int32.toNatClampNeg (gI A x0 0))) (gI A x0 0) A)) ∧ (¬ (gI A x0 0) < (Int32.ofNat (al (gR A x0 1))) → K 0 A))
def wp_Pr_put (o : Nat) (p1 : Nat) (A : Mem) (K : Nat → Mem → Prop) : Prop := kd p1 = 3 ∧ kd o = 5 ∧ wp_Pr_placeFor o (gI A p1 0) A (fun (r3 : Int32) (A2 : Mem) => wp_Pr_lineAt o r3 A2 (fun (r6 : Nat) (A5 : Mem) => ((r6 = 0 → wp_Pr_put_c39 K o p1 r3 A5) ∧ (¬ r6 = 0 → kd r6 = 3 ∧ ((¬ (gI A5 r6 0) = (gI A5 p1 0) → wp_Pr_put_c39 K o p1 r3 A5) ∧ ((gI A5 r6 0) = (gI A5 p1 0) → kd (gR A5 o 1) = 55 ∧ vp_in r3 (al (gR A5 o 1)) ∧ (p1 = 0 ∨ kd p1 = 3) ∧ K r6 (sR A5 (gR A5 o 1) (Int32.toNatClampNeg r3) p1)))))))
set_option maxRecDepth 100000 in
set_option maxHeartbeats 4000000 in
theorem k_Pr_put_c70 {X : CXT} {E : EVT} {K : Nat → Mem → Prop} (hX : Gd X E "BasicMachine$Program" prog_11_method_6_code) (hR : Rm X 3 65) (hN : xnL X = 6) (hQ : QR X E (.object "BasicMachine$Line") K) : ∀ (n : Nat) (x0 : Nat) (x1 : Nat) (x2 : Int32) (x4 : Nat) (x5 : Int32) (A : Mem), wp_Pr_put_c70 K n x0 x1 x2 x4 x5 A → G X E A 70 [(0, cr E x0), (1, cr E x1), (2, .int (x2)), (4, cr E x4), (5, .int (x5))] [] := by
  intro n
  induction n with
  | zero => intro x0 x1 x2 x4 x5 A h; exact h.elim
  | succ n ih =>
    intro x0 x1 x2 x4 x5 A h
    rw [wp_Pr_put_c70] at h
    refine g_iload (pc := 70) hX d_Pr_put_70 4 rfl ?_
    refine g_iload_n (pc := 72) hX d_Pr_put_72 rfl 2 rfl ?_
    refine g_icmp_le (pc := 73) (tgt := 98) hX d_Pr_put_73 (by decide) (fun q => ?_) (fun q => ?_)
    · have h := h.1 q
      refine g_aload_n (pc := 98) hX d_Pr_put_98 rfl 0 rfl ?_
      obtain ⟨f14, h⟩ := h
      refine g_getR (pc := 99) hX fl_Pr_11 rfl f14 d_Pr_put_99 ?_
      refine g_iload_n (pc := 102) hX d_Pr_put_102 rfl 2 rfl ?_
      refine g_aload_n (pc := 103) hX d_Pr_put_103 rfl 1 rfl ?_
      obtain ⟨f15, h⟩ := h
      obtain ⟨f16, h⟩ := h
      obtain ⟨f17, h⟩ := h
      refine g_aastore (pc := 104) hX f15 f17 f16 d_Pr_put_104 ?_
      refine g_aload_n (pc := 105) hX d_Pr_put_105 rfl 0 rfl ?_
      refine g_dup (pc := 106) hX d_Pr_put_106 (cr_cat _ _) ?_
      refine g_getI (pc := 107) hX fl_Pr_18 rfl f14 d_Pr_put_107 ?_
      refine g_iconst (pc := 110) (v := 1) hX d_Pr_put_110 (by decide) ?_
      refine g_iadd (pc := 111) hX d_Pr_put_111 ?_
      refine g_putI (pc := 112) hX fl_Pr_18 rfl rfl rfl f14 d_Pr_put_112 ?_
      refine g_nm (fun A18 eA18 => ?_)
      have h := h A18 eA18
      refine g_aload (pc := 115) hX d_Pr_put_115 3 rfl ?_
      exact g_aret hX hQ h d_Pr_put_117
    · have h := h.2 q
      refine g_aload_n (pc := 76) hX d_Pr_put_76 rfl 0 rfl ?_
      obtain ⟨f19, h⟩ := h
      refine g_getR (pc := 77) hX fl_Pr_11 rfl f19 d_Pr_put_77 ?_
      refine g_iload (pc := 80) hX d_Pr_put_80 4 rfl ?_
      refine g_aload_n (pc := 82) hX d_Pr_put_82 rfl 0 rfl ?_
      refine g_getR (pc := 83) hX fl_Pr_11 rfl f19 d_Pr_put_83 ?_
      refine g_iload (pc := 86) hX d_Pr_put_86 4 rfl ?_
      refine g_iconst (pc := 88) (v := 1) hX d_Pr_put_88 (by decide) ?_
      refine g_isub (pc := 89) hX d_Pr_put_89 ?_
      obtain ⟨f20, h⟩ := h
      obtain ⟨f21, h⟩ := h
      refine g_aaload (pc := 90) hX f20 f21 d_Pr_put_90 ?_
      obtain ⟨f22, h⟩ := h
      obtain ⟨f23, h⟩ := h
      refine g_aastore (pc := 91) hX f20 f23 f22 d_Pr_put_91 ?_
      refine g_iinc (pc := 92) (v := (x5 + (-1))) (lv0 := [(4, cr E x4), (0, cr E x0), (1, cr E x1), (2, .int (x2))]) hX d_Pr_put_92 4 rfl rfl (by rw [hN]; decide) (g_st1b (ks := [3, 0, 1, 2]) rfl (cr_cat _ _) rfl rfl) ?_
      refine g_goto (pc := 95) (tgt := 70) hX d_Pr_put_95 (by decide) ?_
      refine g_sub [2, 3, 4, 1, 0] rfl ?_
      exact ih _ _ _ _ _ _ h
set_option maxRecDepth 100000 in
set_option maxHeartbeats 4000000 in
theorem k_Pr_put_c39 {X : CXT} {E : EVT} {K : Nat → Mem → Prop} (hX : Gd X E "BasicMachine$Program" prog_11_method_6_code) (hR : Rm X 3 65) (hN : xnL X = 6) (hQ : QR X E (.object "BasicMachine$Line") K) (x0 : Nat) (x1 : Nat) (x2 : Int32) (A : Mem) (h : wp_Pr_put_c39 K x0 x1 x2 A) : G X E A 39 [(0, cr E x0), (1, cr E x1), (2, .int (x2))] [] := by
  unfold wp_Pr_put_c39 at h
  refine g_aload_n (pc := 39) hX d_Pr_put_39 rfl 0 rfl ?_
  obtain ⟨f11, h⟩ := h
  refine g_getI (pc := 40) hX fl_Pr_18 rfl f11 d_Pr_put_40 ?_
  refine g_aload_n (pc := 43) hX d_Pr_put_43 rfl 0 rfl ?_
  refine g_getR (pc := 44) hX fl_Pr_11 rfl f11 d_Pr_put_44 ?_
  obtain ⟨f12, h⟩ := h
  refine g_alen (pc := 47) hX f12 (by decide) rfl d_Pr_put_47 ?_
  refine g_icmp_lt (pc := 48) (tgt := 53) hX d_Pr_put_48 (by decide) (fun q => ?_) (fun q => ?_)
  · have h := h.1 q
    refine g_aload_n (pc := 53) hX d_Pr_put_53 rfl 0 rfl ?_
    refine g_getR (pc := 54) hX fl_Pr_11 rfl f11 d_Pr_put_54 ?_
    refine g_aload_n (pc := 57) hX d_Pr_put_57 rfl 0 rfl ?_
    refine g_getI (pc := 58) hX fl_Pr_18 rfl f11 d_Pr_put_58 ?_
    obtain ⟨f13, h⟩ := h
    refine g_aaload (pc := 61) hX f12 f13 d_Pr_put_61 ?_
    refine g_astore (pc := 62) (lv0 := [(0, cr E x0), (1, cr E x1), (2, .int (x2))]) hX d_Pr_put_62 (by rw [hN]; decide) (g_st1 (ks := [0, 1, 2]) rfl rfl) ?_
    refine g_aload_n (pc := 64) hX d_Pr_put_64 rfl 1 rfl ?_
    refine g_getI (pc := 65) hX fl_Pr_18 rfl f11 d_Pr_put_65 ?_
    refine g_istore (pc := 68) (lv0 := [(4, cr E (gR A (gR A x0 1) (Int32.toNatClampNeg (gI A x0 0)))), (0, cr E x0), (1, cr E x1), (2, .int (x2))]) hX d_Pr_put_68 (by rw [hN]; decide) (g_st1b (ks := [0, 1, 2, 3]) rfl (cr_cat _ _) rfl rfl) ?_
    refine g_sub [2, 3, 4, 1, 0] rfl ?_
    obtain ⟨n9, h⟩ := h
    exact k_Pr_put_c70 hX hR hN hQ n9 _ _ _ _ _ _ h
  · have h := h.2 q
    refine g_null (pc := 51) hX d_Pr_put_51 ?_
    exact g_aret hX hQ h d_Pr_put_52
set_option maxRecDepth 100000 in
set_option maxHeartbeats 4000000 in
theorem c_Pr_put (o : Nat) (p1 : Nat) (A : Mem) (K : Nat → Mem → Prop) (h : wp_Pr_put o p1 A K) : CtR y_Pr_put prog_11_method_6_code 6 (.object "BasicMachine$Line") 3 65 (fun E => [cr E o, cr E p1]) A K := by
  refine ctR_of "BasicMachine$Program" (by decide) rfl (Or.inl ⟨_, rfl⟩) (fun E => [(0, cr E o), (1, cr E p1)]) (fun E => by simp [lg_sl, cr_cat, ca_i, ca_l, ca_d]) (fun E => by simp [lv_args, cr_cat, ca_i, ca_l, ca_d]) (fun X E hX hR hN hQ => ?_)
  unfold wp_Pr_put at h
  refine g_aload_n (pc := 0) hX d_Pr_put_0 rfl 0 rfl ?_
  refine g_aload_n (pc := 1) hX d_Pr_put_1 rfl 1 rfl ?_
  obtain ⟨f1, h⟩ := h
  refine g_getI (pc := 2) hX fl_Pr_26 rfl f1 d_Pr_put_2 ?_
  obtain ⟨f4, h⟩ := h
  refine g_callV_I (pc := 5) hX hR f4 cf5 rfl lk_Pr_33 mf_Pr_placeFor (c_Pr_placeFor _ _ _ _ h) rfl rfl rfl ⟨by decide, by decide⟩ (cat_sum _ (Nat.le_of_ble_eq_true rfl)) d_Pr_put_5 (fun r3 A2 h => ?_)
  refine g_istore_n (pc := 8) (lv0 := [(1, cr E p1), (0, cr E o)]) hX d_Pr_put_8 rfl (by rw [hN]; decide) (g_st1b (ks := [1, 0]) rfl (cr_cat _ _) rfl rfl) ?_
  refine g_aload_n (pc := 9) hX d_Pr_put_9 rfl 2 rfl ?_
  refine g_iload_n (pc := 10) hX d_Pr_put_10 rfl 0 rfl ?_
  refine g_callV_R (pc := 11) hX hR f4 cf5 rfl lk_Pr_22 mf_Pr_lineAt (c_Pr_lineAt _ _ _ _ h) rfl rfl rfl ⟨by decide, by decide⟩ (cat_sum _ (Nat.le_of_ble_eq_true rfl)) d_Pr_put_11 (fun r6 A5 h => ?_)
  refine g_astore_n (pc := 14) (lv0 := [(2, .int (r3)), (1, cr E p1), (0, cr E o)]) hX d_Pr_put_14 rfl (by rw [hN]; decide) (g_st1b (ks := [0, 1, 2]) rfl rfl rfl rfl) ?_
  refine g_aload_n (pc := 15) hX d_Pr_put_15 rfl 0 rfl ?_
  refine g_ifnull (pc := 16) (tgt := 39) hX d_Pr_put_16 (by decide) (fun q => ?_) (fun q => ?_)
  · have h := h.1 q
    refine g_sub [3, 2, 1] rfl ?_
    exact k_Pr_put_c39 hX hR hN hQ _ _ _ _ h
  · have h := h.2 q
    refine g_aload_n (pc := 19) hX d_Pr_put_19 rfl 0 rfl ?_
    obtain ⟨f7, h⟩ := h
    refine g_getI (pc := 20) hX fl_Pr_26 rfl f7 d_Pr_put_20 ?_
    refine g_aload_n (pc := 23) hX d_Pr_put_23 rfl 2 rfl ?_
    refine g_getI (pc := 24) hX fl_Pr_26 rfl f1 d_Pr_put_24 ?_
    refine g_icmp_ne (pc := 27) (tgt := 39) hX d_Pr_put_27 (by decide) (fun q => ?_) (fun q => ?_)
    · have h := h.1 q
      refine g_sub [3, 2, 1] rfl ?_
      exact k_Pr_put_c39 hX hR hN hQ _ _ _ _ h
    · have h := h.2 q
      refine g_aload_n (pc := 30) hX d_Pr_put_30 rfl 3 rfl ?_
      refine g_getR (pc := 31) hX fl_Pr_11 rfl f4 d_Pr_put_31 ?_
      refine g_iload_n (pc := 34) hX d_Pr_put_34 rfl 1 rfl ?_
      refine g_aload_n (pc := 35) hX d_Pr_put_35 rfl 2 rfl ?_
      obtain ⟨f8, h⟩ := h
      obtain ⟨f9, h⟩ := h
      obtain ⟨f10, h⟩ := h
      refine g_aastore (pc := 36) hX f8 f10 f9 d_Pr_put_36 ?_
      refine g_aload_n (pc := 37) hX d_Pr_put_37 rfl 0 rfl ?_
      exact g_aret hX hQ h d_Pr_put_38
def wp_Pr_remove_c21 (K : Bool → Mem → Prop) : Nat → Nat → Nat → Int32 → Mem → Prop
  | 0, _, _, _, _ => False
  | n + 1, x0, x3, x4, A => kd x0 = 5 ∧ ((((gI A x0 0) - 1) ≤ x4 → kd (gR (sI A x0 0 ((gI A x0 0) - 1)) x0 1) = 55 ∧ vp_in (gI (sI A x0 0 ((gI A x0 0) - 1)) x0 0) (al (gR (sI A x0 0 ((gI A x0 0) - 1)) x0 1)) ∧ (x3 = 0 ∨ kd x3 = 3) ∧ ∀ A10 : Mem, A10 = (sR (sI A x0 0 ((gI A x0 0) - 1)) (gR (sI A x0 0 ((gI A x0 0) - 1)) x0 1) (Int32.toNatClampNeg (gI (sI A x0 0 ((gI A x0 0) - 1)) x0 0)) x3) → K true A10) ∧ (¬ ((gI A x0 0) - 1) ≤ x4 → kd (gR A x0 1) = 55 ∧ vp_in (x4 + 1) (al (gR A x0 1)) ∧ vp_in x4 (al (gR A x0 1)) ∧ ((gR A (gR A x0 1) (Int32.toNatClampNeg (x4 + 1))) = 0 ∨ kd (gR A (gR A x0 1) (Int32.toNatClampNeg (x4 + 1))) = 3) ∧ wp_Pr_remove_c21 K n x0 x3 (x4 + 1) (sR A (gR A x0 1) (Int32.toNatClampNeg x4) (gR A (gR A x0 1) (Int32.toNatClampNeg (x4 + 1))))))
def wp_Pr_remove (o : Nat) (p1 : Int32) (A : Mem) (K : Bool → Mem → Prop) : Prop := kd o = 5 ∧ wp_Pr_find o p1 A (fun (r2 : Int32) (A1 : Mem) => wp_Pr_lineAt o r2 A1 (fun (r5 : Nat) (A4 : Mem) => ((¬ r5 = 0 → (∃ n9 : Nat, wp_Pr_remove_c21 K n9 o r5 r2 A4)) ∧ (r5 = 0 → K false A4))))
set_option maxRecDepth 100000 in
set_option maxHeartbeats 4000000 in
theorem k_Pr_remove_c21 {X : CXT} {E : EVT} {K : Bool → Mem → Prop} (hX : Gd X E "BasicMachine$Program" prog_11_method_7_code) (hR : Rm X 3 65) (hN : xnL X = 5) (hQ : QZ X E K) : ∀ (n : Nat) (x0 : Nat) (x3 : Nat) (x4 : Int32) (A : Mem), wp_Pr_remove_c21 K n x0 x3 x4 A → G X E A 21 [(0, cr E x0), (3, cr E x3), (4, .int (x4))] [] := by
  intro n
  induction n with
  | zero => intro x0 x3 x4 A h; exact h.elim
  | succ n ih =>
    intro x0 x3 x4 A h
    rw [wp_Pr_remove_c21] at h
    refine g_iload (pc := 21) hX d_Pr_remove_21 2 rfl ?_
    refine g_aload_n (pc := 23) hX d_Pr_remove_23 rfl 0 rfl ?_
    obtain ⟨f6, h⟩ := h
    refine g_getI (pc := 24) hX fl_Pr_18 rfl f6 d_Pr_remove_24 ?_
    refine g_iconst (pc := 27) (v := 1) hX d_Pr_remove_27 (by decide) ?_
    refine g_isub (pc := 28) hX d_Pr_remove_28 ?_
    refine g_icmp_ge (pc := 29) (tgt := 54) hX d_Pr_remove_29 (by decide) (fun q => ?_) (fun q => ?_)
    · have h := h.1 q
      refine g_aload_n (pc := 54) hX d_Pr_remove_54 rfl 0 rfl ?_
      refine g_dup (pc := 55) hX d_Pr_remove_55 (cr_cat _ _) ?_
      refine g_getI (pc := 56) hX fl_Pr_18 rfl f6 d_Pr_remove_56 ?_
      refine g_iconst (pc := 59) (v := 1) hX d_Pr_remove_59 (by decide) ?_
      refine g_isub (pc := 60) hX d_Pr_remove_60 ?_
      refine g_putI (pc := 61) hX fl_Pr_18 rfl rfl rfl f6 d_Pr_remove_61 ?_
      refine g_aload_n (pc := 64) hX d_Pr_remove_64 rfl 0 rfl ?_
      refine g_getR (pc := 65) hX fl_Pr_11 rfl f6 d_Pr_remove_65 ?_
      refine g_aload_n (pc := 68) hX d_Pr_remove_68 rfl 0 rfl ?_
      refine g_getI (pc := 69) hX fl_Pr_18 rfl f6 d_Pr_remove_69 ?_
      refine g_aload_n (pc := 72) hX d_Pr_remove_72 rfl 1 rfl ?_
      obtain ⟨f7, h⟩ := h
      obtain ⟨f8, h⟩ := h
      obtain ⟨f9, h⟩ := h
      refine g_aastore (pc := 73) hX f7 f9 f8 d_Pr_remove_73 ?_
      refine g_nm (fun A10 eA10 => ?_)
      have h := h A10 eA10
      refine g_iconst (pc := 74) (v := 1) hX d_Pr_remove_74 (by decide) ?_
      exact g_zret hX hQ true rfl h d_Pr_remove_75
    · have h := h.2 q
      refine g_aload_n (pc := 32) hX d_Pr_remove_32 rfl 0 rfl ?_
      refine g_getR (pc := 33) hX fl_Pr_11 rfl f6 d_Pr_remove_33 ?_
      refine g_iload (pc := 36) hX d_Pr_remove_36 2 rfl ?_
      refine g_aload_n (pc := 38) hX d_Pr_remove_38 rfl 0 rfl ?_
      refine g_getR (pc := 39) hX fl_Pr_11 rfl f6 d_Pr_remove_39 ?_
      refine g_iload (pc := 42) hX d_Pr_remove_42 2 rfl ?_
      refine g_iconst (pc := 44) (v := 1) hX d_Pr_remove_44 (by decide) ?_
      refine g_iadd (pc := 45) hX d_Pr_remove_45 ?_
      obtain ⟨f11, h⟩ := h
      obtain ⟨f12, h⟩ := h
      refine g_aaload (pc := 46) hX f11 f12 d_Pr_remove_46 ?_
      obtain ⟨f13, h⟩ := h
      obtain ⟨f14, h⟩ := h
      refine g_aastore (pc := 47) hX f11 f14 f13 d_Pr_remove_47 ?_
      refine g_iinc (pc := 48) (v := (x4 + 1)) (lv0 := [(3, cr E x3), (0, cr E x0)]) hX d_Pr_remove_48 2 rfl rfl (by rw [hN]; decide) (g_st1b (ks := [1, 0]) rfl (cr_cat _ _) rfl rfl) ?_
      refine g_goto (pc := 51) (tgt := 21) hX d_Pr_remove_51 (by decide) ?_
      refine g_sub [2, 1, 0] rfl ?_
      exact ih _ _ _ _ h
set_option maxRecDepth 100000 in
set_option maxHeartbeats 4000000 in
theorem c_Pr_remove (o : Nat) (p1 : Int32) (A : Mem) (K : Bool → Mem → Prop) (h : wp_Pr_remove o p1 A K) : CtZ y_Pr_remove prog_11_method_7_code 5 3 65 (fun E => [cr E o, .int (p1)]) A K := by
  refine ctZ_of "BasicMachine$Program" (by decide) rfl (fun E => [(0, cr E o), (1, .int (p1))]) (fun E => by simp [lg_sl, cr_cat, ca_i, ca_l, ca_d]) (fun E => by simp [lv_args, cr_cat, ca_i, ca_l, ca_d]) (fun X E hX hR hN hQ => ?_)
  unfold wp_Pr_remove at h
  refine g_aload_n (pc := 0) hX d_Pr_remove_0 rfl 0 rfl ?_
  refine g_iload_n (pc := 1) hX d_Pr_remove_1 rfl 1 rfl ?_
  obtain ⟨f3, h⟩ := h
  refine g_callV_I (pc := 2) hX hR f3 cf5 rfl lk_Pr_36 mf_Pr_find (c_Pr_find _ _ _ _ h) rfl rfl rfl ⟨by decide, by decide⟩ (cat_sum _ (Nat.le_of_ble_eq_true rfl)) d_Pr_remove_2 (fun r2 A1 h => ?_)
  refine g_istore_n (pc := 5) (lv0 := [(1, .int (p1)), (0, cr E o)]) hX d_Pr_remove_5 rfl (by rw [hN]; decide) (g_st1b (ks := [1, 0]) rfl rfl rfl rfl) ?_
  refine g_aload_n (pc := 6) hX d_Pr_remove_6 rfl 2 rfl ?_
  refine g_iload_n (pc := 7) hX d_Pr_remove_7 rfl 0 rfl ?_
  refine g_callV_R (pc := 8) hX hR f3 cf5 rfl lk_Pr_22 mf_Pr_lineAt (c_Pr_lineAt _ _ _ _ h) rfl rfl rfl ⟨by decide, by decide⟩ (cat_sum _ (Nat.le_of_ble_eq_true rfl)) d_Pr_remove_8 (fun r5 A4 h => ?_)
  refine g_astore_n (pc := 11) (lv0 := [(2, .int (r2)), (1, .int (p1)), (0, cr E o)]) hX d_Pr_remove_11 rfl (by rw [hN]; decide) (g_st1b (ks := [0, 1, 2]) rfl rfl rfl rfl) ?_
  refine g_aload_n (pc := 12) hX d_Pr_remove_12 rfl 0 rfl ?_
  refine g_ifnonnull (pc := 13) (tgt := 18) hX d_Pr_remove_13 (by decide) (fun q => ?_) (fun q => ?_)
  · have h := h.1 q
    refine g_iload_n (pc := 18) hX d_Pr_remove_18 rfl 1 rfl ?_
    refine g_istore (pc := 19) (lv0 := [(3, cr E r5), (2, .int (r2)), (1, .int (p1)), (0, cr E o)]) hX d_Pr_remove_19 (by rw [hN]; decide) (g_st1b (ks := [0, 1, 2, 3]) rfl (cr_cat _ _) rfl rfl) ?_
    refine g_sub [4, 1, 0] rfl ?_
    obtain ⟨n9, h⟩ := h
    exact k_Pr_remove_c21 hX hR hN hQ n9 _ _ _ _ h
  · have h := h.2 q
    refine g_iconst (pc := 16) (v := 0) hX d_Pr_remove_16 (by decide) ?_
    exact g_zret hX hQ false rfl h d_Pr_remove_17
def wp_Ca_clear_c38 (K : Mem → Prop) : Nat → Nat → Int32 → Mem → Prop
  | 0, _, _, _ => False
  | n + 1, x0, x1, A => kd x0 = 6 ∧ kd (gR A x0 6) = 55 ∧ (((Int32.ofNat (al (gR A x0 6))) ≤ x1 → kd (gR A x0 2) = 7 ∧ wp_Mx_shape (gR A x0 2) 0 0 A (fun (A7 : Mem) => kd (gR A7 x0 3) = 7 ∧ wp_Mx_shape (gR A7 x0 3) 0 0 A7 (fun (A9 : Mem) => kd (gR A9 x0 4) = 7 ∧ wp_Mx_shape (gR A9 x0 4) 0 0 A9 (fun (A11 : Mem) => K A11)))) ∧ (¬ (Int32.ofNat (al (gR A x0 6))) ≤ x1 → vp_in x1 (al (gR A x0 6)) ∧ wp_Ca_clear_c38 K n x0 (x1 + 1) (sR A (gR A x0 6) (Int32.toNatClampNeg x1) 0)))
def wp_Ca_clear_c14 (K : Mem → Prop) : Nat → Nat → Int32 → Mem → Prop
  | 0, _, _, _ => False
  | n + 1, x0, x1, A => kd x0 = 6 ∧ kd (gR A x0 1) = 53 ∧ (((Int32.ofNat (al (gR A x0 1))) ≤ x1 → (∃ n9 : Nat, wp_Ca_clear_c38 K n9 x0 0 A)) ∧ (¬ (Int32.ofNat (al (gR A x0 1))) ≤ x1 → vp_in x1 (al (gR A x0 1)) ∧ wp_Ca_clear_c14 K n x0 (x1 + 1) (sD A (gR A x0 1) (Int32.toNatClampNeg x1) FP.dconst0)))
def wp_Ca_clear (o : Nat) (A : Mem) (K : Mem → Prop) : Prop := kd o = 6 ∧ (∃ n9 : Nat, wp_Ca_clear_c14 K n9 o 0 (sI (sR A o 0 1200) o 8 0))
set_option maxRecDepth 100000 in
set_option maxHeartbeats 4000000 in
theorem k_Ca_clear_c38 {X : CXT} {E : EVT} {K : Mem → Prop} (hX : Gd X E "BasicMachine$Calculator" prog_3_method_2_code) (hR : Rm X 1 23) (hN : xnL X = 2) (hQ : QV X E K) : ∀ (n : Nat) (x0 : Nat) (x1 : Int32) (A : Mem), wp_Ca_clear_c38 K n x0 x1 A → G X E A 38 [(0, cr E x0), (1, .int (x1))] [] := by
  intro n
  induction n with
  | zero => intro x0 x1 A h; exact h.elim
  | succ n ih =>
    intro x0 x1 A h
    rw [wp_Ca_clear_c38] at h
    refine g_iload_n (pc := 38) hX d_Ca_clear_38 rfl 1 rfl ?_
    refine g_aload_n (pc := 39) hX d_Ca_clear_39 rfl 0 rfl ?_
    obtain ⟨f5, h⟩ := h
    refine g_getR (pc := 40) hX fl_Ca_42 rfl f5 d_Ca_clear_40 ?_
    obtain ⟨f6, h⟩ := h
    refine g_alen (pc := 43) hX f6 (by decide) rfl d_Ca_clear_43 ?_
    refine g_icmp_ge (pc := 44) (tgt := 60) hX d_Ca_clear_44 (by decide) (fun q => ?_) (fun q => ?_)
    · have h := h.1 q
      refine g_aload_n (pc := 60) hX d_Ca_clear_60 rfl 0 rfl ?_
      refine g_getR (pc := 61) hX fl_Ca_27 rfl f5 d_Ca_clear_61 ?_
      refine g_iconst (pc := 64) (v := 0) hX d_Ca_clear_64 (by decide) ?_
      refine g_iconst (pc := 65) (v := 0) hX d_Ca_clear_65 (by decide) ?_
      obtain ⟨f8, h⟩ := h
      refine g_callV_V (pc := 66) hX hR f8 cf7 rfl lk_Ca_53 mf_Mx_shape (c_Mx_shape _ _ _ _ _ h) rfl rfl rfl ⟨by decide, by decide⟩ (cat_sum _ (Nat.le_of_ble_eq_true rfl)) d_Ca_clear_66 (fun A7 h => ?_)
      refine g_aload_n (pc := 69) hX d_Ca_clear_69 rfl 0 rfl ?_
      refine g_getR (pc := 70) hX fl_Ca_31 rfl f5 d_Ca_clear_70 ?_
      refine g_iconst (pc := 73) (v := 0) hX d_Ca_clear_73 (by decide) ?_
      refine g_iconst (pc := 74) (v := 0) hX d_Ca_clear_74 (by decide) ?_
      obtain ⟨f10, h⟩ := h
      refine g_callV_V (pc := 75) hX hR f10 cf7 rfl lk_Ca_53 mf_Mx_shape (c_Mx_shape _ _ _ _ _ h) rfl rfl rfl ⟨by decide, by decide⟩ (cat_sum _ (Nat.le_of_ble_eq_true rfl)) d_Ca_clear_75 (fun A9 h => ?_)
      refine g_aload_n (pc := 78) hX d_Ca_clear_78 rfl 0 rfl ?_
      refine g_getR (pc := 79) hX fl_Ca_34 rfl f5 d_Ca_clear_79 ?_
      refine g_iconst (pc := 82) (v := 0) hX d_Ca_clear_82 (by decide) ?_
      refine g_iconst (pc := 83) (v := 0) hX d_Ca_clear_83 (by decide) ?_
      obtain ⟨f12, h⟩ := h
      refine g_callV_V (pc := 84) hX hR f12 cf7 rfl lk_Ca_53 mf_Mx_shape (c_Mx_shape _ _ _ _ _ h) rfl rfl rfl ⟨by decide, by decide⟩ (cat_sum _ (Nat.le_of_ble_eq_true rfl)) d_Ca_clear_84 (fun A11 h => ?_)
      exact g_vret hX hQ h d_Ca_clear_87
    · have h := h.2 q
      refine g_aload_n (pc := 47) hX d_Ca_clear_47 rfl 0 rfl ?_
      refine g_getR (pc := 48) hX fl_Ca_42 rfl f5 d_Ca_clear_48 ?_
      refine g_iload_n (pc := 51) hX d_Ca_clear_51 rfl 1 rfl ?_
      refine g_null (pc := 52) hX d_Ca_clear_52 ?_
      obtain ⟨f13, h⟩ := h
      refine g_aastore (pc := 53) hX f6 (Or.inl rfl) f13 d_Ca_clear_53 ?_
      refine g_iinc (pc := 54) (v := (x1 + 1)) (lv0 := [(0, cr E x0)]) hX d_Ca_clear_54 1 rfl rfl (by rw [hN]; decide) (g_st1b (ks := [0]) rfl (cr_cat _ _) rfl rfl) ?_
      refine g_goto (pc := 57) (tgt := 38) hX d_Ca_clear_57 (by decide) ?_
      refine g_sub [1, 0] rfl ?_
      exact ih _ _ _ h
set_option maxRecDepth 100000 in
set_option maxHeartbeats 4000000 in
theorem k_Ca_clear_c14 {X : CXT} {E : EVT} {K : Mem → Prop} (hX : Gd X E "BasicMachine$Calculator" prog_3_method_2_code) (hR : Rm X 1 23) (hN : xnL X = 2) (hQ : QV X E K) : ∀ (n : Nat) (x0 : Nat) (x1 : Int32) (A : Mem), wp_Ca_clear_c14 K n x0 x1 A → G X E A 14 [(0, cr E x0), (1, .int (x1))] [] := by
  intro n
  induction n with
  | zero => intro x0 x1 A h; exact h.elim
  | succ n ih =>
    intro x0 x1 A h
    rw [wp_Ca_clear_c14] at h
    refine g_iload_n (pc := 14) hX d_Ca_clear_14 rfl 1 rfl ?_
    refine g_aload_n (pc := 15) hX d_Ca_clear_15 rfl 0 rfl ?_
    obtain ⟨f2, h⟩ := h
    refine g_getR (pc := 16) hX fl_Ca_20 rfl f2 d_Ca_clear_16 ?_
    obtain ⟨f3, h⟩ := h
    refine g_alen (pc := 19) hX f3 (by decide) rfl d_Ca_clear_19 ?_
    refine g_icmp_ge (pc := 20) (tgt := 36) hX d_Ca_clear_20 (by decide) (fun q => ?_) (fun q => ?_)
    · have h := h.1 q
      refine g_iconst (pc := 36) (v := 0) hX d_Ca_clear_36 (by decide) ?_
      refine g_istore_n (pc := 37) (lv0 := [(0, cr E x0)]) hX d_Ca_clear_37 rfl (by rw [hN]; decide) (g_st1b (ks := [0]) rfl (cr_cat _ _) rfl rfl) ?_
      refine g_sub [1, 0] rfl ?_
      obtain ⟨n9, h⟩ := h
      exact k_Ca_clear_c38 hX hR hN hQ n9 _ _ _ h
    · have h := h.2 q
      refine g_aload_n (pc := 23) hX d_Ca_clear_23 rfl 0 rfl ?_
      refine g_getR (pc := 24) hX fl_Ca_20 rfl f2 d_Ca_clear_24 ?_
      refine g_iload_n (pc := 27) hX d_Ca_clear_27 rfl 1 rfl ?_
      refine g_dconst0 (pc := 28) hX d_Ca_clear_28 ?_
      obtain ⟨f4, h⟩ := h
      refine g_dastore (pc := 29) hX f3 f4 d_Ca_clear_29 ?_
      refine g_iinc (pc := 30) (v := (x1 + 1)) (lv0 := [(0, cr E x0)]) hX d_Ca_clear_30 1 rfl rfl (by rw [hN]; decide) (g_st1b (ks := [0]) rfl (cr_cat _ _) rfl rfl) ?_
      refine g_goto (pc := 33) (tgt := 14) hX d_Ca_clear_33 (by decide) ?_
      refine g_sub [1, 0] rfl ?_
      exact ih _ _ _ h
set_option maxRecDepth 100000 in
set_option maxHeartbeats 4000000 in
theorem c_Ca_clear (o : Nat) (A : Mem) (K : Mem → Prop) (h : wp_Ca_clear o A K) : CtV y_Ca_clear prog_3_method_2_code 2 1 23 (fun E => [cr E o]) A K := by
  refine ctV_of "BasicMachine$Calculator" (by decide) rfl (fun E => [(0, cr E o)]) (fun E => by simp [lg_sl, cr_cat, ca_i, ca_l, ca_d]) (fun E => by simp [lv_args, cr_cat, ca_i, ca_l, ca_d]) (fun X E hX hR hN hQ => ?_)
  unfold wp_Ca_clear at h
  refine g_aload_n (pc := 0) hX d_Ca_clear_0 rfl 0 rfl ?_
  refine g_getsE (pc := 1) (i := 0) hX (gSF hX).2.2.1 (by decide) rfl (by decide) ls_Ca_9 d_Ca_clear_1 ?_
  obtain ⟨f1, h⟩ := h
  refine g_putR (pc := 4) hX fl_Ca_15 rfl rfl rfl f1 d_Ca_clear_4 ?_
  refine g_aload_n (pc := 7) hX d_Ca_clear_7 rfl 0 rfl ?_
  refine g_iconst (pc := 8) (v := 0) hX d_Ca_clear_8 (by decide) ?_
  refine g_putI (pc := 9) hX fl_Ca_49 rfl rfl rfl f1 d_Ca_clear_9 ?_
  refine g_iconst (pc := 12) (v := 0) hX d_Ca_clear_12 (by decide) ?_
  refine g_istore_n (pc := 13) (lv0 := [(0, cr E o)]) hX d_Ca_clear_13 rfl (by rw [hN]; decide) (g_st1b (ks := [0]) rfl (cr_cat _ _) rfl rfl) ?_
  refine g_sub [1, 0] rfl ?_
  obtain ⟨n9, h⟩ := h
  exact k_Ca_clear_c14 hX hR hN hQ n9 _ _ _ h
def wp_Ca_isFine (o : Nat) (A : Mem) (K : Bool → Mem → Prop) : Prop := kd o = 6 ∧ enk (gR A o 0) ∧ ((¬ (gR A o 0) = 1200 → K false A) ∧ ((gR A o 0) = 1200 → K true A))
set_option maxRecDepth 100000 in
set_option maxHeartbeats 4000000 in
theorem c_Ca_isFine (o : Nat) (A : Mem) (K : Bool → Mem → Prop) (h : wp_Ca_isFine o A K) : CtZ y_Ca_isFine prog_3_method_3_code 1 0 0 (fun E => [cr E o]) A K := by
  refine ctZ_of "BasicMachine$Calculator" (by decide) rfl (fun E => [(0, cr E o)]) (fun E => by simp [lg_sl, cr_cat, ca_i, ca_l, ca_d]) (fun E => by simp [lv_args, cr_cat, ca_i, ca_l, ca_d]) (fun X E hX hR hN hQ => ?_)
  unfold wp_Ca_isFine at h
  refine g_aload_n (pc := 0) hX d_Ca_isFine_0 rfl 0 rfl ?_
  obtain ⟨f1, h⟩ := h
  refine g_getR (pc := 1) hX fl_Ca_15 rfl f1 d_Ca_isFine_1 ?_
  refine g_getsE (pc := 4) (i := 0) hX (gSF hX).2.2.1 (by decide) rfl (by decide) ls_Ca_9 d_Ca_isFine_4 ?_
  obtain ⟨f2, h⟩ := h
  refine g_acmp_ne (pc := 7) (tgt := 14) hX f2 (show enk 1200 by unfold enk; omega) d_Ca_isFine_7 (by decide) (fun q => ?_) (fun q => ?_)
  · have h := h.1 q
    refine g_iconst (pc := 14) (v := 0) hX d_Ca_isFine_14 (by decide) ?_
    exact g_zret hX hQ false rfl h d_Ca_isFine_15
  · have h := h.2 q
    refine g_iconst (pc := 10) (v := 1) hX d_Ca_isFine_10 (by decide) ?_
    refine g_goto (pc := 11) (tgt := 15) hX d_Ca_isFine_11 (by decide) ?_
    exact g_zret hX hQ true rfl h d_Ca_isFine_15
def wp_Ca_fail (o : Nat) (p1 : Nat) (A : Mem) (K : Mem → Prop) : Prop := kd o = 6 ∧ enk (gR A o 0) ∧ ((¬ (gR A o 0) = 1200 → K (sR A o 0 (gR A o 0))) ∧ ((gR A o 0) = 1200 → K (sR A o 0 p1)))
set_option maxRecDepth 100000 in
set_option maxHeartbeats 4000000 in
theorem c_Ca_fail (o : Nat) (p1 : Nat) (A : Mem) (K : Mem → Prop) (h : wp_Ca_fail o p1 A K) : CtV y_Ca_fail prog_3_method_4_code 2 0 0 (fun E => [cr E o, cr E p1]) A K := by
  refine ctV_of "BasicMachine$Calculator" (by decide) rfl (fun E => [(0, cr E o), (1, cr E p1)]) (fun E => by simp [lg_sl, cr_cat, ca_i, ca_l, ca_d]) (fun E => by simp [lv_args, cr_cat, ca_i, ca_l, ca_d]) (fun X E hX hR hN hQ => ?_)
  unfold wp_Ca_fail at h
  refine g_aload_n (pc := 0) hX d_Ca_fail_0 rfl 0 rfl ?_
  refine g_aload_n (pc := 1) hX d_Ca_fail_1 rfl 0 rfl ?_
  obtain ⟨f1, h⟩ := h
  refine g_getR (pc := 2) hX fl_Ca_15 rfl f1 d_Ca_fail_2 ?_
  refine g_getsE (pc := 5) (i := 0) hX (gSF hX).2.2.1 (by decide) rfl (by decide) ls_Ca_9 d_Ca_fail_5 ?_
  obtain ⟨f2, h⟩ := h
  refine g_acmp_ne (pc := 8) (tgt := 15) hX f2 (show enk 1200 by unfold enk; omega) d_Ca_fail_8 (by decide) (fun q => ?_) (fun q => ?_)
  · have h := h.1 q
    refine g_aload_n (pc := 15) hX d_Ca_fail_15 rfl 0 rfl ?_
    refine g_getR (pc := 16) hX fl_Ca_15 rfl f1 d_Ca_fail_16 ?_
    refine g_putR (pc := 19) hX fl_Ca_15 rfl rfl rfl f1 d_Ca_fail_19 ?_
    exact g_vret hX hQ h d_Ca_fail_22
  · have h := h.2 q
    refine g_aload_n (pc := 11) hX d_Ca_fail_11 rfl 1 rfl ?_
    refine g_goto (pc := 12) (tgt := 19) hX d_Ca_fail_12 (by decide) ?_
    refine g_putR (pc := 19) hX fl_Ca_15 rfl rfl rfl f1 d_Ca_fail_19 ?_
    exact g_vret hX hQ h d_Ca_fail_22
def wp_Ca_get (o : Nat) (p1 : Int32) (A : Mem) (K : UInt64 → Mem → Prop) : Prop := ((p1 < 0 → K FP.dconst0 A) ∧ (¬ p1 < 0 → kd o = 6 ∧ kd (gR A o 1) = 53 ∧ (((Int32.ofNat (al (gR A o 1))) ≤ p1 → K FP.dconst0 A) ∧ (¬ (Int32.ofNat (al (gR A o 1))) ≤ p1 → vp_in p1 (al (gR A o 1)) ∧ K (gD A (gR A o 1) (Int32.toNatClampNeg p1)) A))))
set_option maxRecDepth 100000 in
set_option maxHeartbeats 4000000 in
theorem c_Ca_get (o : Nat) (p1 : Int32) (A : Mem) (K : UInt64 → Mem → Prop) (h : wp_Ca_get o p1 A K) : CtD y_Ca_get prog_3_method_5_code 2 0 0 (fun E => [cr E o, .int (p1)]) A K := by
  refine ctD_of "BasicMachine$Calculator" (by decide) rfl (fun E => [(0, cr E o), (1, .int (p1))]) (fun E => by simp [lg_sl, cr_cat, ca_i, ca_l, ca_d]) (fun E => by simp [lv_args, cr_cat, ca_i, ca_l, ca_d]) (fun X E hX hR hN hQ => ?_)
  unfold wp_Ca_get at h
  refine g_iload_n (pc := 0) hX d_Ca_get_0 rfl 1 rfl ?_
  refine g_if_lt (pc := 1) (tgt := 22) hX d_Ca_get_1 (by decide) (fun q => ?_) (fun q => ?_)
  · have h := h.1 q
    refine g_dconst0 (pc := 22) hX d_Ca_get_22 ?_
    exact g_dret hX hQ h d_Ca_get_23
  · have h := h.2 q
    refine g_iload_n (pc := 4) hX d_Ca_get_4 rfl 1 rfl ?_
    refine g_aload_n (pc := 5) hX d_Ca_get_5 rfl 0 rfl ?_
    obtain ⟨f1, h⟩ := h
    refine g_getR (pc := 6) hX fl_Ca_20 rfl f1 d_Ca_get_6 ?_
    obtain ⟨f2, h⟩ := h
    refine g_alen (pc := 9) hX f2 (by decide) rfl d_Ca_get_9 ?_
    refine g_icmp_ge (pc := 10) (tgt := 22) hX d_Ca_get_10 (by decide) (fun q => ?_) (fun q => ?_)
    · have h := h.1 q
      refine g_dconst0 (pc := 22) hX d_Ca_get_22 ?_
      exact g_dret hX hQ h d_Ca_get_23
    · have h := h.2 q
      refine g_aload_n (pc := 13) hX d_Ca_get_13 rfl 0 rfl ?_
      refine g_getR (pc := 14) hX fl_Ca_20 rfl f1 d_Ca_get_14 ?_
      refine g_iload_n (pc := 17) hX d_Ca_get_17 rfl 1 rfl ?_
      obtain ⟨f3, h⟩ := h
      refine g_daload (pc := 18) hX f2 f3 d_Ca_get_18 ?_
      refine g_goto (pc := 19) (tgt := 23) hX d_Ca_get_19 (by decide) ?_
      exact g_dret hX hQ h d_Ca_get_23
def wp_Ca_set (o : Nat) (p1 : Int32) (p2 : UInt64) (A : Mem) (K : Mem → Prop) : Prop := ((p1 < 0 → K A) ∧ (¬ p1 < 0 → kd o = 6 ∧ kd (gR A o 1) = 53 ∧ (((Int32.ofNat (al (gR A o 1))) ≤ p1 → K A) ∧ (¬ (Int32.ofNat (al (gR A o 1))) ≤ p1 → vp_in p1 (al (gR A o 1)) ∧ K (sD A (gR A o 1) (Int32.toNatClampNeg p1) p2)))))
set_option maxRecDepth 100000 in
set_option maxHeartbeats 4000000 in
theorem c_Ca_set (o : Nat) (p1 : Int32) (p2 : UInt64) (A : Mem) (K : Mem → Prop) (h : wp_Ca_set o p1 p2 A K) : CtV y_Ca_set prog_3_method_6_code 4 0 0 (fun E => [cr E o, .int (p1), .double (p2)]) A K := by
  refine ctV_of "BasicMachine$Calculator" (by decide) rfl (fun E => [(0, cr E o), (1, .int (p1)), (2, .double (p2))]) (fun E => by simp [lg_sl, cr_cat, ca_i, ca_l, ca_d]) (fun E => by simp [lv_args, cr_cat, ca_i, ca_l, ca_d]) (fun X E hX hR hN hQ => ?_)
  unfold wp_Ca_set at h
  refine g_iload_n (pc := 0) hX d_Ca_set_0 rfl 1 rfl ?_
  refine g_if_lt (pc := 1) (tgt := 20) hX d_Ca_set_1 (by decide) (fun q => ?_) (fun q => ?_)
  · have h := h.1 q
    exact g_vret hX hQ h d_Ca_set_20
  · have h := h.2 q
    refine g_iload_n (pc := 4) hX d_Ca_set_4 rfl 1 rfl ?_
    refine g_aload_n (pc := 5) hX d_Ca_set_5 rfl 0 rfl ?_
    obtain ⟨f1, h⟩ := h
    refine g_getR (pc := 6) hX fl_Ca_20 rfl f1 d_Ca_set_6 ?_
    obtain ⟨f2, h⟩ := h
    refine g_alen (pc := 9) hX f2 (by decide) rfl d_Ca_set_9 ?_
    refine g_icmp_ge (pc := 10) (tgt := 20) hX d_Ca_set_10 (by decide) (fun q => ?_) (fun q => ?_)
    · have h := h.1 q
      exact g_vret hX hQ h d_Ca_set_20
    · have h := h.2 q
      refine g_aload_n (pc := 13) hX d_Ca_set_13 rfl 0 rfl ?_
      refine g_getR (pc := 14) hX fl_Ca_20 rfl f1 d_Ca_set_14 ?_
      refine g_iload_n (pc := 17) hX d_Ca_set_17 rfl 1 rfl ?_
      refine g_dload_n (pc := 18) hX d_Ca_set_18 rfl 2 rfl ?_
      obtain ⟨f3, h⟩ := h
      refine g_dastore (pc := 19) hX f2 f3 d_Ca_set_19 ?_
      exact g_vret hX hQ h d_Ca_set_20
def wp_Ca_matrixAt (o : Nat) (p1 : Int32) (A : Mem) (K : Nat → Mem → Prop) : Prop := ((¬ p1 = 0 → ((¬ p1 = 1 → kd o = 6 ∧ K (gR A o 4) A) ∧ (p1 = 1 → kd o = 6 ∧ K (gR A o 3) A))) ∧ (p1 = 0 → kd o = 6 ∧ K (gR A o 2) A))
set_option maxRecDepth 100000 in
set_option maxHeartbeats 4000000 in
theorem c_Ca_matrixAt (o : Nat) (p1 : Int32) (A : Mem) (K : Nat → Mem → Prop) (h : wp_Ca_matrixAt o p1 A K) : CtR y_Ca_matrixAt prog_3_method_7_code 2 (.object "BasicMachine$Matrix") 0 0 (fun E => [cr E o, .int (p1)]) A K := by
  refine ctR_of "BasicMachine$Calculator" (by decide) rfl (Or.inl ⟨_, rfl⟩) (fun E => [(0, cr E o), (1, .int (p1))]) (fun E => by simp [lg_sl, cr_cat, ca_i, ca_l, ca_d]) (fun E => by simp [lv_args, cr_cat, ca_i, ca_l, ca_d]) (fun X E hX hR hN hQ => ?_)
  unfold wp_Ca_matrixAt at h
  refine g_iload_n (pc := 0) hX d_Ca_matrixAt_0 rfl 1 rfl ?_
  refine g_if_ne (pc := 1) (tgt := 11) hX d_Ca_matrixAt_1 (by decide) (fun q => ?_) (fun q => ?_)
  · have h := h.1 q
    refine g_iload_n (pc := 11) hX d_Ca_matrixAt_11 rfl 1 rfl ?_
    refine g_iconst (pc := 12) (v := 1) hX d_Ca_matrixAt_12 (by decide) ?_
    refine g_icmp_ne (pc := 13) (tgt := 23) hX d_Ca_matrixAt_13 (by decide) (fun q => ?_) (fun q => ?_)
    · have h := h.1 q
      refine g_aload_n (pc := 23) hX d_Ca_matrixAt_23 rfl 0 rfl ?_
      obtain ⟨f1, h⟩ := h
      refine g_getR (pc := 24) hX fl_Ca_34 rfl f1 d_Ca_matrixAt_24 ?_
      exact g_aret hX hQ h d_Ca_matrixAt_27
    · have h := h.2 q
      refine g_aload_n (pc := 16) hX d_Ca_matrixAt_16 rfl 0 rfl ?_
      obtain ⟨f2, h⟩ := h
      refine g_getR (pc := 17) hX fl_Ca_31 rfl f2 d_Ca_matrixAt_17 ?_
      refine g_goto (pc := 20) (tgt := 27) hX d_Ca_matrixAt_20 (by decide) ?_
      exact g_aret hX hQ h d_Ca_matrixAt_27
  · have h := h.2 q
    refine g_aload_n (pc := 4) hX d_Ca_matrixAt_4 rfl 0 rfl ?_
    obtain ⟨f3, h⟩ := h
    refine g_getR (pc := 5) hX fl_Ca_27 rfl f3 d_Ca_matrixAt_5 ?_
    refine g_goto (pc := 8) (tgt := 27) hX d_Ca_matrixAt_8 (by decide) ?_
    exact g_aret hX hQ h d_Ca_matrixAt_27
def wp_Ca_define (o : Nat) (p1 : Int32) (p2 : Nat) (A : Mem) (K : Mem → Prop) : Prop := ((p1 < 0 → K A) ∧ (¬ p1 < 0 → kd o = 6 ∧ kd (gR A o 6) = 55 ∧ (((Int32.ofNat (al (gR A o 6))) ≤ p1 → K A) ∧ (¬ (Int32.ofNat (al (gR A o 6))) ≤ p1 → vp_in p1 (al (gR A o 6)) ∧ (p2 = 0 ∨ kd p2 = 3) ∧ K (sR A (gR A o 6) (Int32.toNatClampNeg p1) p2)))))
set_option maxRecDepth 100000 in
set_option maxHeartbeats 4000000 in
theorem c_Ca_define (o : Nat) (p1 : Int32) (p2 : Nat) (A : Mem) (K : Mem → Prop) (h : wp_Ca_define o p1 p2 A K) : CtV y_Ca_define prog_3_method_8_code 3 0 0 (fun E => [cr E o, .int (p1), cr E p2]) A K := by
  refine ctV_of "BasicMachine$Calculator" (by decide) rfl (fun E => [(0, cr E o), (1, .int (p1)), (2, cr E p2)]) (fun E => by simp [lg_sl, cr_cat, ca_i, ca_l, ca_d]) (fun E => by simp [lv_args, cr_cat, ca_i, ca_l, ca_d]) (fun X E hX hR hN hQ => ?_)
  unfold wp_Ca_define at h
  refine g_iload_n (pc := 0) hX d_Ca_define_0 rfl 1 rfl ?_
  refine g_if_lt (pc := 1) (tgt := 20) hX d_Ca_define_1 (by decide) (fun q => ?_) (fun q => ?_)
  · have h := h.1 q
    exact g_vret hX hQ h d_Ca_define_20
  · have h := h.2 q
    refine g_iload_n (pc := 4) hX d_Ca_define_4 rfl 1 rfl ?_
    refine g_aload_n (pc := 5) hX d_Ca_define_5 rfl 0 rfl ?_
    obtain ⟨f1, h⟩ := h
    refine g_getR (pc := 6) hX fl_Ca_42 rfl f1 d_Ca_define_6 ?_
    obtain ⟨f2, h⟩ := h
    refine g_alen (pc := 9) hX f2 (by decide) rfl d_Ca_define_9 ?_
    refine g_icmp_ge (pc := 10) (tgt := 20) hX d_Ca_define_10 (by decide) (fun q => ?_) (fun q => ?_)
    · have h := h.1 q
      exact g_vret hX hQ h d_Ca_define_20
    · have h := h.2 q
      refine g_aload_n (pc := 13) hX d_Ca_define_13 rfl 0 rfl ?_
      refine g_getR (pc := 14) hX fl_Ca_42 rfl f1 d_Ca_define_14 ?_
      refine g_iload_n (pc := 17) hX d_Ca_define_17 rfl 1 rfl ?_
      refine g_aload_n (pc := 18) hX d_Ca_define_18 rfl 2 rfl ?_
      obtain ⟨f3, h⟩ := h
      obtain ⟨f4, h⟩ := h
      refine g_aastore (pc := 19) hX f2 f4 f3 d_Ca_define_19 ?_
      exact g_vret hX hQ h d_Ca_define_20
def wp_Ca_functionAt (o : Nat) (p1 : Int32) (A : Mem) (K : Nat → Mem → Prop) : Prop := ((p1 < 0 → K 0 A) ∧ (¬ p1 < 0 → kd o = 6 ∧ kd (gR A o 6) = 55 ∧ (((Int32.ofNat (al (gR A o 6))) ≤ p1 → K 0 A) ∧ (¬ (Int32.ofNat (al (gR A o 6))) ≤ p1 → vp_in p1 (al (gR A o 6)) ∧ K (gR A (gR A o 6) (Int32.toNatClampNeg p1)) A))))
set_option maxRecDepth 100000 in
set_option maxHeartbeats 4000000 in
theorem c_Ca_functionAt (o : Nat) (p1 : Int32) (A : Mem) (K : Nat → Mem → Prop) (h : wp_Ca_functionAt o p1 A K) : CtR y_Ca_functionAt prog_3_method_9_code 2 (.object "BasicMachine$Line") 0 0 (fun E => [cr E o, .int (p1)]) A K := by
  refine ctR_of "BasicMachine$Calculator" (by decide) rfl (Or.inl ⟨_, rfl⟩) (fun E => [(0, cr E o), (1, .int (p1))]) (fun E => by simp [lg_sl, cr_cat, ca_i, ca_l, ca_d]) (fun E => by simp [lv_args, cr_cat, ca_i, ca_l, ca_d]) (fun X E hX hR hN hQ => ?_)
  unfold wp_Ca_functionAt at h
  refine g_iload_n (pc := 0) hX d_Ca_functionAt_0 rfl 1 rfl ?_
  refine g_if_lt (pc := 1) (tgt := 22) hX d_Ca_functionAt_1 (by decide) (fun q => ?_) (fun q => ?_)
  · have h := h.1 q
    refine g_null (pc := 22) hX d_Ca_functionAt_22 ?_
    exact g_aret hX hQ h d_Ca_functionAt_23
  · have h := h.2 q
    refine g_iload_n (pc := 4) hX d_Ca_functionAt_4 rfl 1 rfl ?_
    refine g_aload_n (pc := 5) hX d_Ca_functionAt_5 rfl 0 rfl ?_
    obtain ⟨f1, h⟩ := h
    refine g_getR (pc := 6) hX fl_Ca_42 rfl f1 d_Ca_functionAt_6 ?_
    obtain ⟨f2, h⟩ := h
    refine g_alen (pc := 9) hX f2 (by decide) rfl d_Ca_functionAt_9 ?_
    refine g_icmp_ge (pc := 10) (tgt := 22) hX d_Ca_functionAt_10 (by decide) (fun q => ?_) (fun q => ?_)
    · have h := h.1 q
      refine g_null (pc := 22) hX d_Ca_functionAt_22 ?_
      exact g_aret hX hQ h d_Ca_functionAt_23
    · have h := h.2 q
      refine g_aload_n (pc := 13) hX d_Ca_functionAt_13 rfl 0 rfl ?_
      refine g_getR (pc := 14) hX fl_Ca_42 rfl f1 d_Ca_functionAt_14 ?_
      refine g_iload_n (pc := 17) hX d_Ca_functionAt_17 rfl 1 rfl ?_
      obtain ⟨f3, h⟩ := h
      refine g_aaload (pc := 18) hX f2 f3 d_Ca_functionAt_18 ?_
      refine g_goto (pc := 19) (tgt := 23) hX d_Ca_functionAt_19 (by decide) ?_
      exact g_aret hX hQ h d_Ca_functionAt_23
def wp_Ca_push (o : Nat) (p1 : UInt64) (A : Mem) (K : Mem → Prop) : Prop := kd o = 6 ∧ kd (gR A o 7) = 53 ∧ (((Int32.ofNat (al (gR A o 7))) ≤ (gI A o 8) → K A) ∧ (¬ (Int32.ofNat (al (gR A o 7))) ≤ (gI A o 8) → vp_in (gI A o 8) (al (gR A o 7)) ∧ ∀ A4 : Mem, A4 = (sI (sD A (gR A o 7) (Int32.toNatClampNeg (gI A o 8)) p1) o 8 ((gI (sD A (gR A o 7) (Int32.toNatClampNeg (gI A o 8)) p1) o 8) + 1)) → K A4))
set_option maxRecDepth 100000 in
set_option maxHeartbeats 4000000 in
theorem c_Ca_push (o : Nat) (p1 : UInt64) (A : Mem) (K : Mem → Prop) (h : wp_Ca_push o p1 A K) : CtV y_Ca_push prog_3_method_10_code 3 0 0 (fun E => [cr E o, .double (p1)]) A K := by
  refine ctV_of "BasicMachine$Calculator" (by decide) rfl (fun E => [(0, cr E o), (1, .double (p1))]) (fun E => by simp [lg_sl, cr_cat, ca_i, ca_l, ca_d]) (fun E => by simp [lv_args, cr_cat, ca_i, ca_l, ca_d]) (fun X E hX hR hN hQ => ?_)
  unfold wp_Ca_push at h
  refine g_aload_n (pc := 0) hX d_Ca_push_0 rfl 0 rfl ?_
  obtain ⟨f1, h⟩ := h
  refine g_getI (pc := 1) hX fl_Ca_49 rfl f1 d_Ca_push_1 ?_
  refine g_aload_n (pc := 4) hX d_Ca_push_4 rfl 0 rfl ?_
  refine g_getR (pc := 5) hX fl_Ca_46 rfl f1 d_Ca_push_5 ?_
  obtain ⟨f2, h⟩ := h
  refine g_alen (pc := 8) hX f2 (by decide) rfl d_Ca_push_8 ?_
  refine g_icmp_ge (pc := 9) (tgt := 32) hX d_Ca_push_9 (by decide) (fun q => ?_) (fun q => ?_)
  · have h := h.1 q
    exact g_vret hX hQ h d_Ca_push_32
  · have h := h.2 q
    refine g_aload_n (pc := 12) hX d_Ca_push_12 rfl 0 rfl ?_
    refine g_getR (pc := 13) hX fl_Ca_46 rfl f1 d_Ca_push_13 ?_
    refine g_aload_n (pc := 16) hX d_Ca_push_16 rfl 0 rfl ?_
    refine g_getI (pc := 17) hX fl_Ca_49 rfl f1 d_Ca_push_17 ?_
    refine g_dload_n (pc := 20) hX d_Ca_push_20 rfl 1 rfl ?_
    obtain ⟨f3, h⟩ := h
    refine g_dastore (pc := 21) hX f2 f3 d_Ca_push_21 ?_
    refine g_aload_n (pc := 22) hX d_Ca_push_22 rfl 0 rfl ?_
    refine g_dup (pc := 23) hX d_Ca_push_23 (cr_cat _ _) ?_
    refine g_getI (pc := 24) hX fl_Ca_49 rfl f1 d_Ca_push_24 ?_
    refine g_iconst (pc := 27) (v := 1) hX d_Ca_push_27 (by decide) ?_
    refine g_iadd (pc := 28) hX d_Ca_push_28 ?_
    refine g_putI (pc := 29) hX fl_Ca_49 rfl rfl rfl f1 d_Ca_push_29 ?_
    refine g_nm (fun A4 eA4 => ?_)
    have h := h A4 eA4
    exact g_vret hX hQ h d_Ca_push_32
def wp_Ca_pop (o : Nat) (A : Mem) (K : UInt64 → Mem → Prop) : Prop := kd o = 6 ∧ ((0 < (gI A o 8) → kd (gR (sI A o 8 ((gI A o 8) - 1)) o 7) = 53 ∧ vp_in (gI (sI A o 8 ((gI A o 8) - 1)) o 8) (al (gR (sI A o 8 ((gI A o 8) - 1)) o 7)) ∧ K (gD (sI A o 8 ((gI A o 8) - 1)) (gR (sI A o 8 ((gI A o 8) - 1)) o 7) (Int32.toNatClampNeg (gI (sI A o 8 ((gI A o 8) - 1)) o 8))) (sI A o 8 ((gI A o 8) - 1))) ∧ (¬ 0 < (gI A o 8) → K FP.dconst0 A))
set_option maxRecDepth 100000 in
set_option maxHeartbeats 4000000 in
theorem c_Ca_pop (o : Nat) (A : Mem) (K : UInt64 → Mem → Prop) (h : wp_Ca_pop o A K) : CtD y_Ca_pop prog_3_method_11_code 1 0 0 (fun E => [cr E o]) A K := by
  refine ctD_of "BasicMachine$Calculator" (by decide) rfl (fun E => [(0, cr E o)]) (fun E => by simp [lg_sl, cr_cat, ca_i, ca_l, ca_d]) (fun E => by simp [lv_args, cr_cat, ca_i, ca_l, ca_d]) (fun X E hX hR hN hQ => ?_)
  unfold wp_Ca_pop at h
  refine g_aload_n (pc := 0) hX d_Ca_pop_0 rfl 0 rfl ?_
  obtain ⟨f1, h⟩ := h
  refine g_getI (pc := 1) hX fl_Ca_49 rfl f1 d_Ca_pop_1 ?_
  refine g_if_gt (pc := 4) (tgt := 9) hX d_Ca_pop_4 (by decide) (fun q => ?_) (fun q => ?_)
  · have h := h.1 q
    refine g_aload_n (pc := 9) hX d_Ca_pop_9 rfl 0 rfl ?_
    refine g_dup (pc := 10) hX d_Ca_pop_10 (cr_cat _ _) ?_
    refine g_getI (pc := 11) hX fl_Ca_49 rfl f1 d_Ca_pop_11 ?_
    refine g_iconst (pc := 14) (v := 1) hX d_Ca_pop_14 (by decide) ?_
    refine g_isub (pc := 15) hX d_Ca_pop_15 ?_
    refine g_putI (pc := 16) hX fl_Ca_49 rfl rfl rfl f1 d_Ca_pop_16 ?_
    refine g_aload_n (pc := 19) hX d_Ca_pop_19 rfl 0 rfl ?_
    refine g_getR (pc := 20) hX fl_Ca_46 rfl f1 d_Ca_pop_20 ?_
    refine g_aload_n (pc := 23) hX d_Ca_pop_23 rfl 0 rfl ?_
    refine g_getI (pc := 24) hX fl_Ca_49 rfl f1 d_Ca_pop_24 ?_
    obtain ⟨f2, h⟩ := h
    obtain ⟨f3, h⟩ := h
    refine g_daload (pc := 27) hX f2 f3 d_Ca_pop_27 ?_
    exact g_dret hX hQ h d_Ca_pop_28
  · have h := h.2 q
    refine g_dconst0 (pc := 7) hX d_Ca_pop_7 ?_
    exact g_dret hX hQ h d_Ca_pop_8
def wp_Ca_result_c16 (K : UInt64 → Mem → Prop) (x0 : Nat) (A : Mem) : Prop := kd x0 = 6 ∧ enk (gR A x0 0) ∧ ((¬ (gR A x0 0) = 1200 → K FP.dconst0 (sR A x0 0 (gR A x0 0))) ∧ ((gR A x0 0) = 1200 → K FP.dconst0 (sR A x0 0 1204)))
def wp_Ca_result (o : Nat) (p1 : UInt64) (A : Mem) (K : UInt64 → Mem → Prop) : Prop := ((0 < (Op.cmpValue (FP.dcmp p1 4877398396442247168) .l) → wp_Ca_result_c16 K o A) ∧ (¬ 0 < (Op.cmpValue (FP.dcmp p1 4877398396442247168) .l) → ((0 ≤ (Op.cmpValue (FP.dcmp p1 14100770433297022976) .g) → K p1 A) ∧ (¬ 0 ≤ (Op.cmpValue (FP.dcmp p1 14100770433297022976) .g) → wp_Ca_result_c16 K o A))))
set_option maxRecDepth 100000 in
set_option maxHeartbeats 4000000 in
theorem k_Ca_result_c16 {X : CXT} {E : EVT} {K : UInt64 → Mem → Prop} (hX : Gd X E "BasicMachine$Calculator" prog_3_method_12_code) (hR : Rm X 0 0) (hN : xnL X = 3) (hQ : QD X E K) (x0 : Nat) (A : Mem) (h : wp_Ca_result_c16 K x0 A) : G X E A 16 [(0, cr E x0)] [] := by
  unfold wp_Ca_result_c16 at h
  refine g_aload_n (pc := 16) hX d_Ca_result_16 rfl 0 rfl ?_
  refine g_aload_n (pc := 17) hX d_Ca_result_17 rfl 0 rfl ?_
  obtain ⟨f1, h⟩ := h
  refine g_getR (pc := 18) hX fl_Ca_15 rfl f1 d_Ca_result_18 ?_
  refine g_getsE (pc := 21) (i := 0) hX (gSF hX).2.2.1 (by decide) rfl (by decide) ls_Ca_9 d_Ca_result_21 ?_
  obtain ⟨f2, h⟩ := h
  refine g_acmp_ne (pc := 24) (tgt := 33) hX f2 (show enk 1200 by unfold enk; omega) d_Ca_result_24 (by decide) (fun q => ?_) (fun q => ?_)
  · have h := h.1 q
    refine g_aload_n (pc := 33) hX d_Ca_result_33 rfl 0 rfl ?_
    refine g_getR (pc := 34) hX fl_Ca_15 rfl f1 d_Ca_result_34 ?_
    refine g_putR (pc := 37) hX fl_Ca_15 rfl rfl rfl f1 d_Ca_result_37 ?_
    refine g_dconst0 (pc := 40) hX d_Ca_result_40 ?_
    exact g_dret hX hQ h d_Ca_result_41
  · have h := h.2 q
    refine g_getsE (pc := 27) (i := 4) hX (gSF hX).2.2.1 (by decide) rfl (by decide) ls_Ca_61 d_Ca_result_27 ?_
    refine g_goto (pc := 30) (tgt := 37) hX d_Ca_result_30 (by decide) ?_
    refine g_putR (pc := 37) hX fl_Ca_15 rfl rfl rfl f1 d_Ca_result_37 ?_
    refine g_dconst0 (pc := 40) hX d_Ca_result_40 ?_
    exact g_dret hX hQ h d_Ca_result_41
set_option maxRecDepth 100000 in
set_option maxHeartbeats 4000000 in
theorem c_Ca_result (o : Nat) (p1 : UInt64) (A : Mem) (K : UInt64 → Mem → Prop) (h : wp_Ca_result o p1 A K) : CtD y_Ca_result prog_3_method_12_code 3 0 0 (fun E => [cr E o, .double (p1)]) A K := by
  refine ctD_of "BasicMachine$Calculator" (by decide) rfl (fun E => [(0, cr E o), (1, .double (p1))]) (fun E => by simp [lg_sl, cr_cat, ca_i, ca_l, ca_d]) (fun E => by simp [lv_args, cr_cat, ca_i, ca_l, ca_d]) (fun X E hX hR hN hQ => ?_)
  unfold wp_Ca_result at h
  refine g_dload_n (pc := 0) hX d_Ca_result_0 rfl 1 rfl ?_
  refine g_ldc2d (pc := 1) hX d_Ca_result_1 cn_Ca_57 ?_
  refine g_dcmp (pc := 4) hX d_Ca_result_4 ?_
  refine g_if_gt (pc := 5) (tgt := 16) hX d_Ca_result_5 (by decide) (fun q => ?_) (fun q => ?_)
  · have h := h.1 q
    refine g_sub [0] rfl ?_
    exact k_Ca_result_c16 hX hR hN hQ _ _ h
  · have h := h.2 q
    refine g_dload_n (pc := 8) hX d_Ca_result_8 rfl 1 rfl ?_
    refine g_ldc2d (pc := 9) hX d_Ca_result_9 cn_Ca_59 ?_
    refine g_dcmp (pc := 12) hX d_Ca_result_12 ?_
    refine g_if_ge (pc := 13) (tgt := 42) hX d_Ca_result_13 (by decide) (fun q => ?_) (fun q => ?_)
    · have h := h.1 q
      refine g_dload_n (pc := 42) hX d_Ca_result_42 rfl 1 rfl ?_
      exact g_dret hX hQ h d_Ca_result_43
    · have h := h.2 q
      refine g_sub [0] rfl ?_
      exact k_Ca_result_c16 hX hR hN hQ _ _ h
def wp_Ca_quotient (o : Nat) (p1 : UInt64) (p3 : UInt64) (A : Mem) (K : UInt64 → Mem → Prop) : Prop := ((¬ (Op.cmpValue (FP.dcmp p3 FP.dconst0) .l) = 0 → vf_n64 (FP.ddiv p1 p3) ∧ kd o = 6 ∧ wp_Ca_result o (FP.ddiv p1 p3) A (fun (r3 : UInt64) (A2 : Mem) => K r3 A2)) ∧ ((Op.cmpValue (FP.dcmp p3 FP.dconst0) .l) = 0 → kd o = 6 ∧ wp_Ca_fail o 1204 A (fun (A5 : Mem) => K FP.dconst0 A5)))
set_option maxRecDepth 100000 in
set_option maxHeartbeats 4000000 in
theorem c_Ca_quotient (o : Nat) (p1 : UInt64) (p3 : UInt64) (A : Mem) (K : UInt64 → Mem → Prop) (h : wp_Ca_quotient o p1 p3 A K) : CtD y_Ca_quotient prog_3_method_16_code 5 1 22 (fun E => [cr E o, .double (p1), .double (p3)]) A K := by
  refine ctD_of "BasicMachine$Calculator" (by decide) rfl (fun E => [(0, cr E o), (1, .double (p1)), (3, .double (p3))]) (fun E => by simp [lg_sl, cr_cat, ca_i, ca_l, ca_d]) (fun E => by simp [lv_args, cr_cat, ca_i, ca_l, ca_d]) (fun X E hX hR hN hQ => ?_)
  unfold wp_Ca_quotient at h
  refine g_dload_n (pc := 0) hX d_Ca_quotient_0 rfl 2 rfl ?_
  refine g_dconst0 (pc := 1) hX d_Ca_quotient_1 ?_
  refine g_dcmp (pc := 2) hX d_Ca_quotient_2 ?_
  refine g_if_ne (pc := 3) (tgt := 15) hX d_Ca_quotient_3 (by decide) (fun q => ?_) (fun q => ?_)
  · have h := h.1 q
    refine g_aload_n (pc := 15) hX d_Ca_quotient_15 rfl 0 rfl ?_
    refine g_dload_n (pc := 16) hX d_Ca_quotient_16 rfl 1 rfl ?_
    refine g_dload_n (pc := 17) hX d_Ca_quotient_17 rfl 2 rfl ?_
    obtain ⟨f1, h⟩ := h
    refine g_ddiv (pc := 18) hX d_Ca_quotient_18 f1 ?_
    obtain ⟨f4, h⟩ := h
    refine g_callV_D (pc := 19) hX hR f4 cf6 rfl lk_Ca_140 mf_Ca_result (c_Ca_result _ _ _ _ h) rfl rfl rfl ⟨by decide, by decide⟩ (cat_sum _ (Nat.le_of_ble_eq_true rfl)) d_Ca_quotient_19 (fun r3 A2 h => ?_)
    exact g_dret hX hQ h d_Ca_quotient_22
  · have h := h.2 q
    refine g_aload_n (pc := 6) hX d_Ca_quotient_6 rfl 0 rfl ?_
    refine g_getsE (pc := 7) (i := 4) hX (gSF hX).2.2.1 (by decide) rfl (by decide) ls_Ca_61 d_Ca_quotient_7 ?_
    obtain ⟨f6, h⟩ := h
    refine g_callV_V (pc := 10) hX hR f6 cf6 rfl lk_Ca_150 mf_Ca_fail (c_Ca_fail _ _ _ _ h) rfl rfl rfl ⟨by decide, by decide⟩ (cat_sum _ (Nat.le_of_ble_eq_true rfl)) d_Ca_quotient_10 (fun A5 h => ?_)
    refine g_dconst0 (pc := 13) hX d_Ca_quotient_13 ?_
    exact g_dret hX hQ h d_Ca_quotient_14
def wp_Ca_power_c91 (K : UInt64 → Mem → Prop) (x0 : Nat) (x3 : UInt64) (x6 : UInt64) (A : Mem) : Prop := ((0 ≤ (Op.cmpValue (FP.dcmp x3 FP.dconst0) .g) → K x6 A) ∧ (¬ 0 ≤ (Op.cmpValue (FP.dcmp x3 FP.dconst0) .g) → vf_n64 (FP.ddiv FP.dconst1 x6) ∧ kd x0 = 6 ∧ wp_Ca_result x0 (FP.ddiv FP.dconst1 x6) A (fun (r15 : UInt64) (A14 : Mem) => K r15 A14)))
def wp_Ca_power_c46 (K : UInt64 → Mem → Prop) : Nat → Nat → UInt64 → UInt64 → Int32 → UInt64 → Int32 → Mem → Prop
  | 0, _, _, _, _, _, _, _ => False
  | n + 1, x0, x1, x3, x5, x6, x8, A => ((x5 ≤ x8 → ((0 ≤ (Op.cmpValue (FP.dcmp x3 FP.dconst0) .g) → wp_Ca_power_c91 K x0 x3 x6 A) ∧ (¬ 0 ≤ (Op.cmpValue (FP.dcmp x3 FP.dconst0) .g) → ((¬ (Op.cmpValue (FP.dcmp x6 FP.dconst0) .l) = 0 → wp_Ca_power_c91 K x0 x3 x6 A) ∧ ((Op.cmpValue (FP.dcmp x6 FP.dconst0) .l) = 0 → kd x0 = 6 ∧ wp_Ca_fail x0 1204 A (fun (A7 : Mem) => K FP.dconst0 A7)))))) ∧ (¬ x5 ≤ x8 → vf_n64 (FP.dmul x6 x1) ∧ kd x0 = 6 ∧ wp_Ca_result x0 (FP.dmul x6 x1) A (fun (r11 : UInt64) (A10 : Mem) => wp_Ca_power_c46 K n x0 x1 x3 x5 r11 (x8 + 1) A10)))
def wp_Ca_power (o : Nat) (p1 : UInt64) (p3 : UInt64) (A : Mem) (K : UInt64 → Mem → Prop) : Prop := (((Op.cmpValue (FP.dcmp p3 13849694754071117824) .g) < 0 → kd o = 6 ∧ wp_Ca_fail o 1204 A (fun (A1 : Mem) => K FP.dconst0 A1)) ∧ (¬ (Op.cmpValue (FP.dcmp p3 13849694754071117824) .g) < 0 → ((0 < (Op.cmpValue (FP.dcmp p3 4626322717216342016) .l) → kd o = 6 ∧ wp_Ca_fail o 1204 A (fun (A3 : Mem) => K FP.dconst0 A3)) ∧ (¬ 0 < (Op.cmpValue (FP.dcmp p3 4626322717216342016) .l) → (((Op.cmpValue (FP.dcmp (FP.i2d (FP.d2i p3)) p3) .l) = 0 → (∃ n9 : Nat, wp_Ca_power_c46 K n9 o p1 p3 (if 0 ≤ (FP.d2i p3) then (FP.d2i p3) else 0 - (FP.d2i p3)) FP.dconst1 0 A)) ∧ (¬ (Op.cmpValue (FP.dcmp (FP.i2d (FP.d2i p3)) p3) .l) = 0 → kd o = 6 ∧ wp_Ca_fail o 1204 A (fun (A5 : Mem) => K FP.dconst0 A5)))))))
set_option maxRecDepth 100000 in
set_option maxHeartbeats 4000000 in
theorem k_Ca_power_c91 {X : CXT} {E : EVT} {K : UInt64 → Mem → Prop} (hX : Gd X E "BasicMachine$Calculator" prog_3_method_17_code) (hR : Rm X 1 22) (hN : xnL X = 9) (hQ : QD X E K) (x0 : Nat) (x3 : UInt64) (x6 : UInt64) (A : Mem) (h : wp_Ca_power_c91 K x0 x3 x6 A) : G X E A 91 [(0, cr E x0), (3, .double (x3)), (6, .double (x6))] [] := by
  unfold wp_Ca_power_c91 at h
  refine g_dload_n (pc := 91) hX d_Ca_power_91 rfl 1 rfl ?_
  refine g_dconst0 (pc := 92) hX d_Ca_power_92 ?_
  refine g_dcmp (pc := 93) hX d_Ca_power_93 ?_
  refine g_if_ge (pc := 94) (tgt := 108) hX d_Ca_power_94 (by decide) (fun q => ?_) (fun q => ?_)
  · have h := h.1 q
    refine g_dload (pc := 108) hX d_Ca_power_108 2 rfl ?_
    exact g_dret hX hQ h d_Ca_power_110
  · have h := h.2 q
    refine g_aload_n (pc := 97) hX d_Ca_power_97 rfl 0 rfl ?_
    refine g_dconst1 (pc := 98) hX d_Ca_power_98 ?_
    refine g_dload (pc := 99) hX d_Ca_power_99 2 rfl ?_
    obtain ⟨f13, h⟩ := h
    refine g_ddiv (pc := 101) hX d_Ca_power_101 f13 ?_
    obtain ⟨f16, h⟩ := h
    refine g_callV_D (pc := 102) hX hR f16 cf6 rfl lk_Ca_140 mf_Ca_result (c_Ca_result _ _ _ _ h) rfl rfl rfl ⟨by decide, by decide⟩ (cat_sum _ (Nat.le_of_ble_eq_true rfl)) d_Ca_power_102 (fun r15 A14 h => ?_)
    refine g_goto (pc := 105) (tgt := 110) hX d_Ca_power_105 (by decide) ?_
    exact g_dret hX hQ h d_Ca_power_110
set_option maxRecDepth 100000 in
set_option maxHeartbeats 4000000 in
theorem k_Ca_power_c46 {X : CXT} {E : EVT} {K : UInt64 → Mem → Prop} (hX : Gd X E "BasicMachine$Calculator" prog_3_method_17_code) (hR : Rm X 1 22) (hN : xnL X = 9) (hQ : QD X E K) : ∀ (n : Nat) (x0 : Nat) (x1 : UInt64) (x3 : UInt64) (x5 : Int32) (x6 : UInt64) (x8 : Int32) (A : Mem), wp_Ca_power_c46 K n x0 x1 x3 x5 x6 x8 A → G X E A 46 [(0, cr E x0), (1, .double (x1)), (3, .double (x3)), (5, .int (x5)), (6, .double (x6)), (8, .int (x8))] [] := by
  intro n
  induction n with
  | zero => intro x0 x1 x3 x5 x6 x8 A h; exact h.elim
  | succ n ih =>
    intro x0 x1 x3 x5 x6 x8 A h
    rw [wp_Ca_power_c46] at h
    refine g_iload (pc := 46) hX d_Ca_power_46 5 rfl ?_
    refine g_iload (pc := 48) hX d_Ca_power_48 3 rfl ?_
    refine g_icmp_ge (pc := 50) (tgt := 69) hX d_Ca_power_50 (by decide) (fun q => ?_) (fun q => ?_)
    · have h := h.1 q
      refine g_dload_n (pc := 69) hX d_Ca_power_69 rfl 2 rfl ?_
      refine g_dconst0 (pc := 70) hX d_Ca_power_70 ?_
      refine g_dcmp (pc := 71) hX d_Ca_power_71 ?_
      refine g_if_ge (pc := 72) (tgt := 91) hX d_Ca_power_72 (by decide) (fun q => ?_) (fun q => ?_)
      · have h := h.1 q
        refine g_sub [0, 2, 4] rfl ?_
        exact k_Ca_power_c91 hX hR hN hQ _ _ _ _ h
      · have h := h.2 q
        refine g_dload (pc := 75) hX d_Ca_power_75 4 rfl ?_
        refine g_dconst0 (pc := 77) hX d_Ca_power_77 ?_
        refine g_dcmp (pc := 78) hX d_Ca_power_78 ?_
        refine g_if_ne (pc := 79) (tgt := 91) hX d_Ca_power_79 (by decide) (fun q => ?_) (fun q => ?_)
        · have h := h.1 q
          refine g_sub [0, 2, 4] rfl ?_
          exact k_Ca_power_c91 hX hR hN hQ _ _ _ _ h
        · have h := h.2 q
          refine g_aload_n (pc := 82) hX d_Ca_power_82 rfl 0 rfl ?_
          refine g_getsE (pc := 83) (i := 4) hX (gSF hX).2.2.1 (by decide) rfl (by decide) ls_Ca_61 d_Ca_power_83 ?_
          obtain ⟨f8, h⟩ := h
          refine g_callV_V (pc := 86) hX hR f8 cf6 rfl lk_Ca_150 mf_Ca_fail (c_Ca_fail _ _ _ _ h) rfl rfl rfl ⟨by decide, by decide⟩ (cat_sum _ (Nat.le_of_ble_eq_true rfl)) d_Ca_power_86 (fun A7 h => ?_)
          refine g_dconst0 (pc := 89) hX d_Ca_power_89 ?_
          exact g_dret hX hQ h d_Ca_power_90
    · have h := h.2 q
      refine g_aload_n (pc := 53) hX d_Ca_power_53 rfl 0 rfl ?_
      refine g_dload (pc := 54) hX d_Ca_power_54 4 rfl ?_
      refine g_dload_n (pc := 56) hX d_Ca_power_56 rfl 1 rfl ?_
      obtain ⟨f9, h⟩ := h
      refine g_dmul (pc := 57) hX d_Ca_power_57 f9 ?_
      obtain ⟨f12, h⟩ := h
      refine g_callV_D (pc := 58) hX hR f12 cf6 rfl lk_Ca_140 mf_Ca_result (c_Ca_result _ _ _ _ h) rfl rfl rfl ⟨by decide, by decide⟩ (cat_sum _ (Nat.le_of_ble_eq_true rfl)) d_Ca_power_58 (fun r11 A10 h => ?_)
      refine g_dstore (pc := 61) (lv0 := [(5, .int (x5)), (0, cr E x0), (1, .double (x1)), (3, .double (x3)), (8, .int (x8))]) hX d_Ca_power_61 (by rw [hN]; decide) (g_st2b (ks := [3, 0, 1, 2, 5]) rfl rfl rfl rfl rfl) ?_
      refine g_iinc (pc := 63) (v := (x8 + 1)) (lv0 := [(6, .double (r11)), (5, .int (x5)), (0, cr E x0), (1, .double (x1)), (3, .double (x3))]) hX d_Ca_power_63 5 rfl rfl (by rw [hN]; decide) (g_st1 (ks := [0, 1, 2, 3, 4]) rfl rfl) ?_
      refine g_goto (pc := 66) (tgt := 46) hX d_Ca_power_66 (by decide) ?_
      refine g_sub [3, 4, 5, 2, 1, 0] rfl ?_
      exact ih _ _ _ _ _ _ _ h
set_option maxRecDepth 100000 in
set_option maxHeartbeats 4000000 in
theorem c_Ca_power (o : Nat) (p1 : UInt64) (p3 : UInt64) (A : Mem) (K : UInt64 → Mem → Prop) (h : wp_Ca_power o p1 p3 A K) : CtD y_Ca_power prog_3_method_17_code 9 1 22 (fun E => [cr E o, .double (p1), .double (p3)]) A K := by
  refine ctD_of "BasicMachine$Calculator" (by decide) rfl (fun E => [(0, cr E o), (1, .double (p1)), (3, .double (p3))]) (fun E => by simp [lg_sl, cr_cat, ca_i, ca_l, ca_d]) (fun E => by simp [lv_args, cr_cat, ca_i, ca_l, ca_d]) (fun X E hX hR hN hQ => ?_)
  unfold wp_Ca_power at h
  refine g_dload_n (pc := 0) hX d_Ca_power_0 rfl 2 rfl ?_
  refine g_ldc2d (pc := 1) hX d_Ca_power_1 cn_Ca_154 ?_
  refine g_dcmp (pc := 4) hX d_Ca_power_4 ?_
  refine g_if_lt (pc := 5) (tgt := 24) hX d_Ca_power_5 (by decide) (fun q => ?_) (fun q => ?_)
  · have h := h.1 q
    refine g_aload_n (pc := 24) hX d_Ca_power_24 rfl 0 rfl ?_
    refine g_getsE (pc := 25) (i := 4) hX (gSF hX).2.2.1 (by decide) rfl (by decide) ls_Ca_61 d_Ca_power_25 ?_
    obtain ⟨f2, h⟩ := h
    refine g_callV_V (pc := 28) hX hR f2 cf6 rfl lk_Ca_150 mf_Ca_fail (c_Ca_fail _ _ _ _ h) rfl rfl rfl ⟨by decide, by decide⟩ (cat_sum _ (Nat.le_of_ble_eq_true rfl)) d_Ca_power_28 (fun A1 h => ?_)
    refine g_dconst0 (pc := 31) hX d_Ca_power_31 ?_
    exact g_dret hX hQ h d_Ca_power_32
  · have h := h.2 q
    refine g_dload_n (pc := 8) hX d_Ca_power_8 rfl 2 rfl ?_
    refine g_ldc2d (pc := 9) hX d_Ca_power_9 cn_Ca_156 ?_
    refine g_dcmp (pc := 12) hX d_Ca_power_12 ?_
    refine g_if_gt (pc := 13) (tgt := 24) hX d_Ca_power_13 (by decide) (fun q => ?_) (fun q => ?_)
    · have h := h.1 q
      refine g_aload_n (pc := 24) hX d_Ca_power_24 rfl 0 rfl ?_
      refine g_getsE (pc := 25) (i := 4) hX (gSF hX).2.2.1 (by decide) rfl (by decide) ls_Ca_61 d_Ca_power_25 ?_
      obtain ⟨f4, h⟩ := h
      refine g_callV_V (pc := 28) hX hR f4 cf6 rfl lk_Ca_150 mf_Ca_fail (c_Ca_fail _ _ _ _ h) rfl rfl rfl ⟨by decide, by decide⟩ (cat_sum _ (Nat.le_of_ble_eq_true rfl)) d_Ca_power_28 (fun A3 h => ?_)
      refine g_dconst0 (pc := 31) hX d_Ca_power_31 ?_
      exact g_dret hX hQ h d_Ca_power_32
    · have h := h.2 q
      refine g_dload_n (pc := 16) hX d_Ca_power_16 rfl 2 rfl ?_
      refine g_d2i (pc := 17) hX d_Ca_power_17 ?_
      refine g_i2d (pc := 18) hX d_Ca_power_18 ?_
      refine g_dload_n (pc := 19) hX d_Ca_power_19 rfl 2 rfl ?_
      refine g_dcmp (pc := 20) hX d_Ca_power_20 ?_
      refine g_if_eq (pc := 21) (tgt := 33) hX d_Ca_power_21 (by decide) (fun q => ?_) (fun q => ?_)
      · have h := h.1 q
        refine g_dload_n (pc := 33) hX d_Ca_power_33 rfl 2 rfl ?_
        refine g_d2i (pc := 34) hX d_Ca_power_34 ?_
        refine g_mabs (pc := 35) hX hR mt_abs lk_Ca_158 (by decide) (cat_sum _ (Nat.le_of_ble_eq_true rfl)) d_Ca_power_35 ?_
        refine g_istore (pc := 38) (lv0 := [(0, cr E o), (1, .double (p1)), (3, .double (p3))]) hX d_Ca_power_38 (by rw [hN]; decide) (g_st1 (ks := [0, 1, 2]) rfl rfl) ?_
        refine g_dconst1 (pc := 40) hX d_Ca_power_40 ?_
        refine g_dstore (pc := 41) (lv0 := [(5, .int ((if 0 ≤ (FP.d2i p3) then (FP.d2i p3) else 0 - (FP.d2i p3)))), (0, cr E o), (1, .double (p1)), (3, .double (p3))]) hX d_Ca_power_41 (by rw [hN]; decide) (g_st2b (ks := [0, 1, 2, 3]) rfl rfl rfl rfl rfl) ?_
        refine g_iconst (pc := 43) (v := 0) hX d_Ca_power_43 (by decide) ?_
        refine g_istore (pc := 44) (lv0 := [(6, .double (FP.dconst1)), (5, .int ((if 0 ≤ (FP.d2i p3) then (FP.d2i p3) else 0 - (FP.d2i p3)))), (0, cr E o), (1, .double (p1)), (3, .double (p3))]) hX d_Ca_power_44 (by rw [hN]; decide) (g_st1 (ks := [0, 1, 2, 3, 4]) rfl rfl) ?_
        refine g_sub [3, 4, 5, 2, 1, 0] rfl ?_
        obtain ⟨n9, h⟩ := h
        exact k_Ca_power_c46 hX hR hN hQ n9 _ _ _ _ _ _ _ h
      · have h := h.2 q
        refine g_aload_n (pc := 24) hX d_Ca_power_24 rfl 0 rfl ?_
        refine g_getsE (pc := 25) (i := 4) hX (gSF hX).2.2.1 (by decide) rfl (by decide) ls_Ca_61 d_Ca_power_25 ?_
        obtain ⟨f6, h⟩ := h
        refine g_callV_V (pc := 28) hX hR f6 cf6 rfl lk_Ca_150 mf_Ca_fail (c_Ca_fail _ _ _ _ h) rfl rfl rfl ⟨by decide, by decide⟩ (cat_sum _ (Nat.le_of_ble_eq_true rfl)) d_Ca_power_28 (fun A5 h => ?_)
        refine g_dconst0 (pc := 31) hX d_Ca_power_31 ?_
        exact g_dret hX hQ h d_Ca_power_32
def wp_Ca_sizeOf (p0 : UInt64) (A : Mem) (K : UInt64 → Mem → Prop) : Prop := ((0 ≤ (Op.cmpValue (FP.dcmp p0 FP.dconst0) .g) → K p0 A) ∧ (¬ 0 ≤ (Op.cmpValue (FP.dcmp p0 FP.dconst0) .g) → K (FP.dneg p0) A))
set_option maxRecDepth 100000 in
set_option maxHeartbeats 4000000 in
theorem c_Ca_sizeOf (p0 : UInt64) (A : Mem) (K : UInt64 → Mem → Prop) (h : wp_Ca_sizeOf p0 A K) : CtD y_Ca_sizeOf prog_3_method_18_code 2 0 0 (fun E => [.double (p0)]) A K := by
  refine ctD_of "BasicMachine$Calculator" (by decide) rfl (fun E => [(0, .double (p0))]) (fun E => by simp [lg_sl, cr_cat, ca_i, ca_l, ca_d]) (fun E => by simp [lv_args, cr_cat, ca_i, ca_l, ca_d]) (fun X E hX hR hN hQ => ?_)
  unfold wp_Ca_sizeOf at h
  refine g_dload_n (pc := 0) hX d_Ca_sizeOf_0 rfl 0 rfl ?_
  refine g_dconst0 (pc := 1) hX d_Ca_sizeOf_1 ?_
  refine g_dcmp (pc := 2) hX d_Ca_sizeOf_2 ?_
  refine g_if_ge (pc := 3) (tgt := 11) hX d_Ca_sizeOf_3 (by decide) (fun q => ?_) (fun q => ?_)
  · have h := h.1 q
    refine g_dload_n (pc := 11) hX d_Ca_sizeOf_11 rfl 0 rfl ?_
    exact g_dret hX hQ h d_Ca_sizeOf_12
  · have h := h.2 q
    refine g_dload_n (pc := 6) hX d_Ca_sizeOf_6 rfl 0 rfl ?_
    refine g_dneg (pc := 7) hX d_Ca_sizeOf_7 ?_
    refine g_goto (pc := 8) (tgt := 12) hX d_Ca_sizeOf_8 (by decide) ?_
    exact g_dret hX hQ h d_Ca_sizeOf_12
def wp_Ca_floorOf (p0 : UInt64) (A : Mem) (K : UInt64 → Mem → Prop) : Prop := (((Op.cmpValue (FP.dcmp (FP.l2d (FP.d2l p0)) p0) .l) ≤ 0 → K (FP.l2d (FP.d2l p0)) A) ∧ (¬ (Op.cmpValue (FP.dcmp (FP.l2d (FP.d2l p0)) p0) .l) ≤ 0 → K (FP.l2d ((FP.d2l p0) - 1)) A))
set_option maxRecDepth 100000 in
set_option maxHeartbeats 4000000 in
theorem c_Ca_floorOf (p0 : UInt64) (A : Mem) (K : UInt64 → Mem → Prop) (h : wp_Ca_floorOf p0 A K) : CtD y_Ca_floorOf prog_3_method_19_code 4 0 0 (fun E => [.double (p0)]) A K := by
  refine ctD_of "BasicMachine$Calculator" (by decide) rfl (fun E => [(0, .double (p0))]) (fun E => by simp [lg_sl, cr_cat, ca_i, ca_l, ca_d]) (fun E => by simp [lv_args, cr_cat, ca_i, ca_l, ca_d]) (fun X E hX hR hN hQ => ?_)
  unfold wp_Ca_floorOf at h
  refine g_dload_n (pc := 0) hX d_Ca_floorOf_0 rfl 0 rfl ?_
  refine g_d2l (pc := 1) hX d_Ca_floorOf_1 ?_
  refine g_lstore_n (pc := 2) (lv0 := [(0, .double (p0))]) hX d_Ca_floorOf_2 rfl (by rw [hN]; decide) (g_st2 (ks := [0]) rfl rfl) ?_
  refine g_lload_n (pc := 3) hX d_Ca_floorOf_3 rfl 0 rfl ?_
  refine g_l2d (pc := 4) hX d_Ca_floorOf_4 ?_
  refine g_dload_n (pc := 5) hX d_Ca_floorOf_5 rfl 1 rfl ?_
  refine g_dcmp (pc := 6) hX d_Ca_floorOf_6 ?_
  refine g_if_le (pc := 7) (tgt := 17) hX d_Ca_floorOf_7 (by decide) (fun q => ?_) (fun q => ?_)
  · have h := h.1 q
    refine g_lload_n (pc := 17) hX d_Ca_floorOf_17 rfl 0 rfl ?_
    refine g_l2d (pc := 18) hX d_Ca_floorOf_18 ?_
    exact g_dret hX hQ h d_Ca_floorOf_19
  · have h := h.2 q
    refine g_lload_n (pc := 10) hX d_Ca_floorOf_10 rfl 0 rfl ?_
    refine g_lconst (pc := 11) (v := 1) hX d_Ca_floorOf_11 (by decide) ?_
    refine g_lsub (pc := 12) hX d_Ca_floorOf_12 ?_
    refine g_l2d (pc := 13) hX d_Ca_floorOf_13 ?_
    refine g_goto (pc := 14) (tgt := 19) hX d_Ca_floorOf_14 (by decide) ?_
    exact g_dret hX hQ h d_Ca_floorOf_19
def wp_Ca_signOf (p0 : UInt64) (A : Mem) (K : UInt64 → Mem → Prop) : Prop := ((0 ≤ (Op.cmpValue (FP.dcmp p0 FP.dconst0) .g) → (((Op.cmpValue (FP.dcmp p0 FP.dconst0) .l) ≤ 0 → K FP.dconst0 A) ∧ (¬ (Op.cmpValue (FP.dcmp p0 FP.dconst0) .l) ≤ 0 → K FP.dconst1 A))) ∧ (¬ 0 ≤ (Op.cmpValue (FP.dcmp p0 FP.dconst0) .g) → K 13830554455654793216 A))
set_option maxRecDepth 100000 in
set_option maxHeartbeats 4000000 in
theorem c_Ca_signOf (p0 : UInt64) (A : Mem) (K : UInt64 → Mem → Prop) (h : wp_Ca_signOf p0 A K) : CtD y_Ca_signOf prog_3_method_20_code 2 0 0 (fun E => [.double (p0)]) A K := by
  refine ctD_of "BasicMachine$Calculator" (by decide) rfl (fun E => [(0, .double (p0))]) (fun E => by simp [lg_sl, cr_cat, ca_i, ca_l, ca_d]) (fun E => by simp [lv_args, cr_cat, ca_i, ca_l, ca_d]) (fun X E hX hR hN hQ => ?_)
  unfold wp_Ca_signOf at h
  refine g_dload_n (pc := 0) hX d_Ca_signOf_0 rfl 0 rfl ?_
  refine g_dconst0 (pc := 1) hX d_Ca_signOf_1 ?_
  refine g_dcmp (pc := 2) hX d_Ca_signOf_2 ?_
  refine g_if_ge (pc := 3) (tgt := 12) hX d_Ca_signOf_3 (by decide) (fun q => ?_) (fun q => ?_)
  · have h := h.1 q
    refine g_dload_n (pc := 12) hX d_Ca_signOf_12 rfl 0 rfl ?_
    refine g_dconst0 (pc := 13) hX d_Ca_signOf_13 ?_
    refine g_dcmp (pc := 14) hX d_Ca_signOf_14 ?_
    refine g_if_le (pc := 15) (tgt := 22) hX d_Ca_signOf_15 (by decide) (fun q => ?_) (fun q => ?_)
    · have h := h.1 q
      refine g_dconst0 (pc := 22) hX d_Ca_signOf_22 ?_
      exact g_dret hX hQ h d_Ca_signOf_23
    · have h := h.2 q
      refine g_dconst1 (pc := 18) hX d_Ca_signOf_18 ?_
      refine g_goto (pc := 19) (tgt := 23) hX d_Ca_signOf_19 (by decide) ?_
      exact g_dret hX hQ h d_Ca_signOf_23
  · have h := h.2 q
    refine g_ldc2d (pc := 6) hX d_Ca_signOf_6 cn_Ca_161 ?_
    refine g_goto (pc := 9) (tgt := 23) hX d_Ca_signOf_9 (by decide) ?_
    exact g_dret hX hQ h d_Ca_signOf_23
def wp_Ca_pushElement (o : Nat) (p1 : Nat) (A : Mem) (K : Mem → Prop) : Prop := kd o = 6 ∧ wp_Ca_pop o A (fun (r2 : UInt64) (A1 : Mem) => wp_Ca_pop o A1 (fun (r5 : UInt64) (A4 : Mem) => kd p1 = 7 ∧ wp_Mx_placeOf p1 (FP.d2l r5) (FP.d2l r2) A4 (fun (r7 : Int32) (A6 : Mem) => ((0 ≤ r7 → wp_Mx_get p1 r7 A6 (fun (r10 : UInt64) (A9 : Mem) => wp_Ca_push o r10 A9 (fun (A11 : Mem) => K A11))) ∧ (¬ 0 ≤ r7 → wp_Ca_fail o 1205 A6 (fun (A12 : Mem) => wp_Mx_get p1 r7 A12 (fun (r14 : UInt64) (A13 : Mem) => wp_Ca_push o r14 A13 (fun (A15 : Mem) => K A15))))))))
set_option maxRecDepth 100000 in
set_option maxHeartbeats 4000000 in
theorem c_Ca_pushElement (o : Nat) (p1 : Nat) (A : Mem) (K : Mem → Prop) (h : wp_Ca_pushElement o p1 A K) : CtV y_Ca_pushElement prog_3_method_21_code 7 1 24 (fun E => [cr E o, cr E p1]) A K := by
  refine ctV_of "BasicMachine$Calculator" (by decide) rfl (fun E => [(0, cr E o), (1, cr E p1)]) (fun E => by simp [lg_sl, cr_cat, ca_i, ca_l, ca_d]) (fun E => by simp [lv_args, cr_cat, ca_i, ca_l, ca_d]) (fun X E hX hR hN hQ => ?_)
  unfold wp_Ca_pushElement at h
  refine g_aload_n (pc := 0) hX d_Ca_pushElement_0 rfl 0 rfl ?_
  obtain ⟨f3, h⟩ := h
  refine g_callV_D (pc := 1) hX hR f3 cf6 rfl lk_Ca_96 mf_Ca_pop (c_Ca_pop _ _ _ h) rfl rfl rfl ⟨by decide, by decide⟩ (cat_sum _ (Nat.le_of_ble_eq_true rfl)) d_Ca_pushElement_1 (fun r2 A1 h => ?_)
  refine g_dstore_n (pc := 4) (lv0 := [(1, cr E p1), (0, cr E o)]) hX d_Ca_pushElement_4 rfl (by rw [hN]; decide) (g_st2b (ks := [1, 0]) rfl (cr_cat _ _) rfl rfl rfl) ?_
  refine g_aload_n (pc := 5) hX d_Ca_pushElement_5 rfl 2 rfl ?_
  refine g_callV_D (pc := 6) hX hR f3 cf6 rfl lk_Ca_96 mf_Ca_pop (c_Ca_pop _ _ _ h) rfl rfl rfl ⟨by decide, by decide⟩ (cat_sum _ (Nat.le_of_ble_eq_true rfl)) d_Ca_pushElement_6 (fun r5 A4 h => ?_)
  refine g_dstore (pc := 9) (lv0 := [(2, .double (r2)), (1, cr E p1), (0, cr E o)]) hX d_Ca_pushElement_9 (by rw [hN]; decide) (g_st2 (ks := [0, 1, 2]) rfl rfl) ?_
  refine g_aload_n (pc := 11) hX d_Ca_pushElement_11 rfl 2 rfl ?_
  refine g_dload (pc := 12) hX d_Ca_pushElement_12 0 rfl ?_
  refine g_d2l (pc := 14) hX d_Ca_pushElement_14 ?_
  refine g_dload_n (pc := 15) hX d_Ca_pushElement_15 rfl 1 rfl ?_
  refine g_d2l (pc := 16) hX d_Ca_pushElement_16 ?_
  obtain ⟨f8, h⟩ := h
  refine g_callV_I (pc := 17) hX hR f8 cf7 rfl lk_Ca_163 mf_Mx_placeOf (c_Mx_placeOf _ _ _ _ _ h) rfl rfl rfl ⟨by decide, by decide⟩ (cat_sum _ (Nat.le_of_ble_eq_true rfl)) d_Ca_pushElement_17 (fun r7 A6 h => ?_)
  refine g_istore (pc := 20) (lv0 := [(4, .double (r5)), (2, .double (r2)), (1, cr E p1), (0, cr E o)]) hX d_Ca_pushElement_20 (by rw [hN]; decide) (g_st1 (ks := [0, 1, 2, 3]) rfl rfl) ?_
  refine g_iload (pc := 22) hX d_Ca_pushElement_22 0 rfl ?_
  refine g_if_ge (pc := 24) (tgt := 34) hX d_Ca_pushElement_24 (by decide) (fun q => ?_) (fun q => ?_)
  · have h := h.1 q
    refine g_aload_n (pc := 34) hX d_Ca_pushElement_34 rfl 4 rfl ?_
    refine g_aload_n (pc := 35) hX d_Ca_pushElement_35 rfl 3 rfl ?_
    refine g_iload (pc := 36) hX d_Ca_pushElement_36 0 rfl ?_
    refine g_callV_D (pc := 38) hX hR f8 cf7 rfl lk_Ca_170 mf_Mx_get (c_Mx_get _ _ _ _ h) rfl rfl rfl ⟨by decide, by decide⟩ (cat_sum _ (Nat.le_of_ble_eq_true rfl)) d_Ca_pushElement_38 (fun r10 A9 h => ?_)
    refine g_callV_V (pc := 41) hX hR f3 cf6 rfl lk_Ca_102 mf_Ca_push (c_Ca_push _ _ _ _ h) rfl rfl rfl ⟨by decide, by decide⟩ (cat_sum _ (Nat.le_of_ble_eq_true rfl)) d_Ca_pushElement_41 (fun A11 h => ?_)
    exact g_vret hX hQ h d_Ca_pushElement_44
  · have h := h.2 q
    refine g_aload_n (pc := 27) hX d_Ca_pushElement_27 rfl 4 rfl ?_
    refine g_getsE (pc := 28) (i := 5) hX (gSF hX).2.2.1 (by decide) rfl (by decide) ls_Ca_167 d_Ca_pushElement_28 ?_
    refine g_callV_V (pc := 31) hX hR f3 cf6 rfl lk_Ca_150 mf_Ca_fail (c_Ca_fail _ _ _ _ h) rfl rfl rfl ⟨by decide, by decide⟩ (cat_sum _ (Nat.le_of_ble_eq_true rfl)) d_Ca_pushElement_31 (fun A12 h => ?_)
    refine g_aload_n (pc := 34) hX d_Ca_pushElement_34 rfl 4 rfl ?_
    refine g_aload_n (pc := 35) hX d_Ca_pushElement_35 rfl 3 rfl ?_
    refine g_iload (pc := 36) hX d_Ca_pushElement_36 0 rfl ?_
    refine g_callV_D (pc := 38) hX hR f8 cf7 rfl lk_Ca_170 mf_Mx_get (c_Mx_get _ _ _ _ h) rfl rfl rfl ⟨by decide, by decide⟩ (cat_sum _ (Nat.le_of_ble_eq_true rfl)) d_Ca_pushElement_38 (fun r14 A13 h => ?_)
    refine g_callV_V (pc := 41) hX hR f3 cf6 rfl lk_Ca_102 mf_Ca_push (c_Ca_push _ _ _ _ h) rfl rfl rfl ⟨by decide, by decide⟩ (cat_sum _ (Nat.le_of_ble_eq_true rfl)) d_Ca_pushElement_41 (fun A15 h => ?_)
    exact g_vret hX hQ h d_Ca_pushElement_44
def wp_Ca_findFunction (o : Nat) (p1 : Int32) (A : Mem) (K : Mem → Prop) : Prop := kd o = 6 ∧ wp_Ca_functionAt o p1 A (fun (r2 : Nat) (A1 : Mem) => ((¬ r2 = 0 → K A1) ∧ (r2 = 0 → wp_Ca_fail o 1203 A1 (fun (A4 : Mem) => K A4))))
set_option maxRecDepth 100000 in
set_option maxHeartbeats 4000000 in
theorem c_Ca_findFunction (o : Nat) (p1 : Int32) (A : Mem) (K : Mem → Prop) (h : wp_Ca_findFunction o p1 A K) : CtV y_Ca_findFunction prog_3_method_22_code 2 1 21 (fun E => [cr E o, .int (p1)]) A K := by
  refine ctV_of "BasicMachine$Calculator" (by decide) rfl (fun E => [(0, cr E o), (1, .int (p1))]) (fun E => by simp [lg_sl, cr_cat, ca_i, ca_l, ca_d]) (fun E => by simp [lv_args, cr_cat, ca_i, ca_l, ca_d]) (fun X E hX hR hN hQ => ?_)
  unfold wp_Ca_findFunction at h
  refine g_aload_n (pc := 0) hX d_Ca_findFunction_0 rfl 0 rfl ?_
  refine g_iload_n (pc := 1) hX d_Ca_findFunction_1 rfl 1 rfl ?_
  obtain ⟨f3, h⟩ := h
  refine g_callV_R (pc := 2) hX hR f3 cf6 rfl lk_Ca_132 mf_Ca_functionAt (c_Ca_functionAt _ _ _ _ h) rfl rfl rfl ⟨by decide, by decide⟩ (cat_sum _ (Nat.le_of_ble_eq_true rfl)) d_Ca_findFunction_2 (fun r2 A1 h => ?_)
  refine g_ifnonnull (pc := 5) (tgt := 15) hX d_Ca_findFunction_5 (by decide) (fun q => ?_) (fun q => ?_)
  · have h := h.1 q
    exact g_vret hX hQ h d_Ca_findFunction_15
  · have h := h.2 q
    refine g_aload_n (pc := 8) hX d_Ca_findFunction_8 rfl 0 rfl ?_
    refine g_getsE (pc := 9) (i := 3) hX (gSF hX).2.2.1 (by decide) rfl (by decide) ls_Ca_171 d_Ca_findFunction_9 ?_
    refine g_callV_V (pc := 12) hX hR f3 cf6 rfl lk_Ca_150 mf_Ca_fail (c_Ca_fail _ _ _ _ h) rfl rfl rfl ⟨by decide, by decide⟩ (cat_sum _ (Nat.le_of_ble_eq_true rfl)) d_Ca_findFunction_12 (fun A4 h => ?_)
    exact g_vret hX hQ h d_Ca_findFunction_15
def wp_Ca_callFunction (S : Nat → Nat → Int32 → Int32 → Mem → (UInt64 → Mem → Prop) → Prop) (o : Nat) (p1 : Nat) (p2 : Int32) (A : Mem) (K : Mem → Prop) : Prop := kd o = 6 ∧ wp_Ca_pop o A (fun (r2 : UInt64) (A1 : Mem) => ((¬ p1 = 0 → ((p2 < 3 → kd p1 = 3 ∧ wp_Ca_get o (gI A1 p1 3) A1 (fun (r6 : UInt64) (A5 : Mem) => wp_Ca_set o (gI A5 p1 3) r2 A5 (fun (A7 : Mem) => S o p1 0 (p2 + 1) A7 (fun (r9 : UInt64) (A8 : Mem) => wp_Ca_set o (gI A8 p1 3) r6 A8 (fun (A10 : Mem) => wp_Ca_push o r9 A10 (fun (A11 : Mem) => K A11)))))) ∧ (¬ p2 < 3 → wp_Ca_fail o 1202 A1 (fun (A12 : Mem) => K A12)))) ∧ (p1 = 0 → wp_Ca_fail o 1203 A1 (fun (A13 : Mem) => K A13))))
set_option maxRecDepth 100000 in
set_option maxHeartbeats 4000000 in
theorem c_Ca_callFunction {fr lo : Nat} {S : Nat → Nat → Int32 → Int32 → Mem → (UInt64 → Mem → Prop) → Prop} (hS : ∀ (o : Nat) (p1 : Nat) (p2 : Int32) (p3 : Int32) (A : Mem) (K : UInt64 → Mem → Prop), S o p1 p2 p3 A K → CtD y_Ca_evaluate prog_3_method_14_code 6 fr lo (fun E => [cr E o, cr E p1, .int (p2), .int (p3)]) A K) (o : Nat) (p1 : Nat) (p2 : Int32) (A : Mem) (K : Mem → Prop) (h : wp_Ca_callFunction S o p1 p2 A K) : CtV y_Ca_callFunction prog_3_method_23_code 9 (fr + 1) (lo + 25) (fun E => [cr E o, cr E p1, .int (p2)]) A K := by
  refine ctV_of "BasicMachine$Calculator" (by decide) rfl (fun E => [(0, cr E o), (1, cr E p1), (2, .int (p2))]) (fun E => by simp [lg_sl, cr_cat, ca_i, ca_l, ca_d]) (fun E => by simp [lv_args, cr_cat, ca_i, ca_l, ca_d]) (fun X E hX hR hN hQ => ?_)
  unfold wp_Ca_callFunction at h
  refine g_aload_n (pc := 0) hX d_Ca_callFunction_0 rfl 0 rfl ?_
  obtain ⟨f3, h⟩ := h
  refine g_callV_D (pc := 1) hX hR f3 cf6 rfl lk_Ca_96 mf_Ca_pop (c_Ca_pop _ _ _ h) rfl rfl rfl ⟨by omega, by omega⟩ (cat_sum _ (Nat.le_of_ble_eq_true rfl)) d_Ca_callFunction_1 (fun r2 A1 h => ?_)
  refine g_dstore_n (pc := 4) (lv0 := [(2, .int (p2)), (0, cr E o), (1, cr E p1)]) hX d_Ca_callFunction_4 rfl (by rw [hN]; decide) (g_st2b (ks := [2, 0, 1]) rfl rfl rfl rfl rfl) ?_
  refine g_aload_n (pc := 5) hX d_Ca_callFunction_5 rfl 3 rfl ?_
  refine g_ifnonnull (pc := 6) (tgt := 17) hX d_Ca_callFunction_6 (by decide) (fun q => ?_) (fun q => ?_)
  · have h := h.1 q
    refine g_iload_n (pc := 17) hX d_Ca_callFunction_17 rfl 1 rfl ?_
    refine g_iconst (pc := 18) (v := 3) hX d_Ca_callFunction_18 (by decide) ?_
    refine g_icmp_lt (pc := 19) (tgt := 30) hX d_Ca_callFunction_19 (by decide) (fun q => ?_) (fun q => ?_)
    · have h := h.1 q
      refine g_aload_n (pc := 30) hX d_Ca_callFunction_30 rfl 2 rfl ?_
      refine g_aload_n (pc := 31) hX d_Ca_callFunction_31 rfl 3 rfl ?_
      obtain ⟨f4, h⟩ := h
      refine g_getI (pc := 32) hX fl_Ca_177 rfl f4 d_Ca_callFunction_32 ?_
      refine g_callV_D (pc := 35) hX hR f3 cf6 rfl lk_Ca_106 mf_Ca_get (c_Ca_get _ _ _ _ h) rfl rfl rfl ⟨by omega, by omega⟩ (cat_sum _ (Nat.le_of_ble_eq_true rfl)) d_Ca_callFunction_35 (fun r6 A5 h => ?_)
      refine g_dstore (pc := 38) (lv0 := [(3, .double (r2)), (2, .int (p2)), (0, cr E o), (1, cr E p1)]) hX d_Ca_callFunction_38 (by rw [hN]; decide) (g_st2 (ks := [0, 1, 2, 3]) rfl rfl) ?_
      refine g_aload_n (pc := 40) hX d_Ca_callFunction_40 rfl 3 rfl ?_
      refine g_aload_n (pc := 41) hX d_Ca_callFunction_41 rfl 4 rfl ?_
      refine g_getI (pc := 42) hX fl_Ca_177 rfl f4 d_Ca_callFunction_42 ?_
      refine g_dload_n (pc := 45) hX d_Ca_callFunction_45 rfl 1 rfl ?_
      refine g_callV_V (pc := 46) hX hR f3 cf6 rfl lk_Ca_180 mf_Ca_set (c_Ca_set _ _ _ _ _ h) rfl rfl rfl ⟨by omega, by omega⟩ (cat_sum _ (Nat.le_of_ble_eq_true rfl)) d_Ca_callFunction_46 (fun A7 h => ?_)
      refine g_aload_n (pc := 49) hX d_Ca_callFunction_49 rfl 3 rfl ?_
      refine g_aload_n (pc := 50) hX d_Ca_callFunction_50 rfl 4 rfl ?_
      refine g_iconst (pc := 51) (v := 0) hX d_Ca_callFunction_51 (by decide) ?_
      refine g_iload_n (pc := 52) hX d_Ca_callFunction_52 rfl 2 rfl ?_
      refine g_iconst (pc := 53) (v := 1) hX d_Ca_callFunction_53 (by decide) ?_
      refine g_iadd (pc := 54) hX d_Ca_callFunction_54 ?_
      refine g_callV_D (pc := 55) hX hR f3 cf6 rfl lk_Ca_64 mf_Ca_evaluate (hS _ _ _ _ _ _ h) rfl rfl rfl ⟨by omega, by omega⟩ (cat_sum _ (Nat.le_of_ble_eq_true rfl)) d_Ca_callFunction_55 (fun r9 A8 h => ?_)
      refine g_dstore (pc := 58) (lv0 := [(5, .double (r6)), (3, .double (r2)), (2, .int (p2)), (0, cr E o), (1, cr E p1)]) hX d_Ca_callFunction_58 (by rw [hN]; decide) (g_st2 (ks := [0, 1, 2, 3, 4]) rfl rfl) ?_
      refine g_aload_n (pc := 60) hX d_Ca_callFunction_60 rfl 4 rfl ?_
      refine g_aload_n (pc := 61) hX d_Ca_callFunction_61 rfl 5 rfl ?_
      refine g_getI (pc := 62) hX fl_Ca_177 rfl f4 d_Ca_callFunction_62 ?_
      refine g_dload (pc := 65) hX d_Ca_callFunction_65 1 rfl ?_
      refine g_callV_V (pc := 67) hX hR f3 cf6 rfl lk_Ca_180 mf_Ca_set (c_Ca_set _ _ _ _ _ h) rfl rfl rfl ⟨by omega, by omega⟩ (cat_sum _ (Nat.le_of_ble_eq_true rfl)) d_Ca_callFunction_67 (fun A10 h => ?_)
      refine g_aload_n (pc := 70) hX d_Ca_callFunction_70 rfl 4 rfl ?_
      refine g_dload (pc := 71) hX d_Ca_callFunction_71 0 rfl ?_
      refine g_callV_V (pc := 73) hX hR f3 cf6 rfl lk_Ca_102 mf_Ca_push (c_Ca_push _ _ _ _ h) rfl rfl rfl ⟨by omega, by omega⟩ (cat_sum _ (Nat.le_of_ble_eq_true rfl)) d_Ca_callFunction_73 (fun A11 h => ?_)
      exact g_vret hX hQ h d_Ca_callFunction_76
    · have h := h.2 q
      refine g_aload_n (pc := 22) hX d_Ca_callFunction_22 rfl 2 rfl ?_
      refine g_getsE (pc := 23) (i := 2) hX (gSF hX).2.2.1 (by decide) rfl (by decide) ls_Ca_174 d_Ca_callFunction_23 ?_
      refine g_callV_V (pc := 26) hX hR f3 cf6 rfl lk_Ca_150 mf_Ca_fail (c_Ca_fail _ _ _ _ h) rfl rfl rfl ⟨by omega, by omega⟩ (cat_sum _ (Nat.le_of_ble_eq_true rfl)) d_Ca_callFunction_26 (fun A12 h => ?_)
      exact g_vret hX hQ h d_Ca_callFunction_29
  · have h := h.2 q
    refine g_aload_n (pc := 9) hX d_Ca_callFunction_9 rfl 2 rfl ?_
    refine g_getsE (pc := 10) (i := 3) hX (gSF hX).2.2.1 (by decide) rfl (by decide) ls_Ca_171 d_Ca_callFunction_10 ?_
    refine g_callV_V (pc := 13) hX hR f3 cf6 rfl lk_Ca_150 mf_Ca_fail (c_Ca_fail _ _ _ _ h) rfl rfl rfl ⟨by omega, by omega⟩ (cat_sum _ (Nat.le_of_ble_eq_true rfl)) d_Ca_callFunction_13 (fun A13 h => ?_)
    exact g_vret hX hQ h d_Ca_callFunction_16
def wp_Ca_fits (p0 : Nat) (p1 : Nat) (p2 : Nat) (p3 : Nat) (A : Mem) (K : Bool → Mem → Prop) : Prop := (1100 ≤ p0 ∧ p0 < 1109) ∧ vp_in (nI (p0 - 1100)) 9 ∧ (((tb1301.getD (Int32.toNatClampNeg (nI (p0 - 1100))) 0) = 1 → kd p1 = 7 ∧ wp_Mx_isThere p1 A (fun (r4 : Bool) (A3 : Mem) => K r4 A3)) ∧ ((tb1301.getD (Int32.toNatClampNeg (nI (p0 - 1100))) 0) = 2 → kd p1 = 7 ∧ wp_Mx_isThere p1 A (fun (r7 : Bool) (A6 : Mem) => K r7 A6)) ∧ ((tb1301.getD (Int32.toNatClampNeg (nI (p0 - 1100))) 0) = 3 → kd p1 = 7 ∧ wp_Mx_isThere p1 A (fun (r10 : Bool) (A9 : Mem) => ((r10 = false → K false A9) ∧ (r10 = true → wp_Mx_isSquare p1 A9 (fun (r13 : Bool) (A12 : Mem) => ((r13 = false → K false A12) ∧ (r13 = true → K true A12))))))) ∧ ((tb1301.getD (Int32.toNatClampNeg (nI (p0 - 1100))) 0) = 4 → kd p2 = 7 ∧ wp_Mx_isThere p2 A (fun (r15 : Bool) (A14 : Mem) => ((r15 = false → K false A14) ∧ (r15 = true → wp_Mx_isSizedAs p2 p3 A14 (fun (r18 : Bool) (A17 : Mem) => ((r18 = false → K false A17) ∧ (r18 = true → K true A17))))))) ∧ ((tb1301.getD (Int32.toNatClampNeg (nI (p0 - 1100))) 0) = 5 → kd p2 = 7 ∧ wp_Mx_isThere p2 A (fun (r20 : Bool) (A19 : Mem) => ((r20 = false → K false A19) ∧ (r20 = true → wp_Mx_isSizedAs p2 p3 A19 (fun (r23 : Bool) (A22 : Mem) => ((r23 = false → K false A22) ∧ (r23 = true → K true A22))))))) ∧ ((tb1301.getD (Int32.toNatClampNeg (nI (p0 - 1100))) 0) = 6 → kd p2 = 7 ∧ wp_Mx_isThere p2 A (fun (r25 : Bool) (A24 : Mem) => ((r25 = false → K false A24) ∧ (r25 = true → kd p3 = 7 ∧ wp_Mx_isThere p3 A24 (fun (r28 : Bool) (A27 : Mem) => ((r28 = false → K false A27) ∧ (r28 = true → ((¬ (gI A27 p2 1) = (gI A27 p3 0) → K false A27) ∧ ((gI A27 p2 1) = (gI A27 p3 0) → K true A27))))))))) ∧ (¬ (tb1301.getD (Int32.toNatClampNeg (nI (p0 - 1100))) 0) = 1 → ¬ (tb1301.getD (Int32.toNatClampNeg (nI (p0 - 1100))) 0) = 2 → ¬ (tb1301.getD (Int32.toNatClampNeg (nI (p0 - 1100))) 0) = 3 → ¬ (tb1301.getD (Int32.toNatClampNeg (nI (p0 - 1100))) 0) = 4 → ¬ (tb1301.getD (Int32.toNatClampNeg (nI (p0 - 1100))) 0) = 5 → ¬ (tb1301.getD (Int32.toNatClampNeg (nI (p0 - 1100))) 0) = 6 → kd p2 = 7 ∧ wp_Mx_isThere p2 A (fun (r31 : Bool) (A30 : Mem) => K r31 A30)))
set_option maxRecDepth 100000 in
set_option maxHeartbeats 4000000 in
theorem c_Ca_fits (p0 : Nat) (p1 : Nat) (p2 : Nat) (p3 : Nat) (A : Mem) (K : Bool → Mem → Prop) (h : wp_Ca_fits p0 p1 p2 p3 A K) : CtZ y_Ca_fits prog_3_method_25_code 4 1 21 (fun E => [cr E p0, cr E p1, cr E p2, cr E p3]) A K := by
  refine ctZ_of "BasicMachine$Calculator" (by decide) rfl (fun E => [(0, cr E p0), (1, cr E p1), (2, cr E p2), (3, cr E p3)]) (fun E => by simp [lg_sl, cr_cat, ca_i, ca_l, ca_d]) (fun E => by simp [lv_args, cr_cat, ca_i, ca_l, ca_d]) (fun X E hX hR hN hQ => ?_)
  unfold wp_Ca_fits at h
  refine g_getsT (pc := 0) hX (gSF hX).2.2.2.2.1 (by decide) ls_Ca_225 d_Ca_fits_0 ?_
  refine g_aload_n (pc := 3) hX d_Ca_fits_3 rfl 0 rfl ?_
  obtain ⟨f1, h⟩ := h
  refine g_ordinal (pc := 4) (C := "BasicMachine$Form") (d := "LBasicMachine$Form;") (nm := en1100) (b := 1100) hX hR (by decide) ⟨f1.1, by have h9 := f1; show _ - 1100 < 9; omega⟩ (fun _ _ _ h9 => h9.2.1) lk_Ca_230 so_Form so_Formb (by decide) (cat_sum _ (Nat.le_of_ble_eq_true rfl)) d_Ca_fits_4 ?_
  obtain ⟨f2, h⟩ := h
  refine g_tabld (pc := 7) hX (gSF hX).2.2.2.2.1 (by decide) f2 d_Ca_fits_7 ?_
  by_cases q0 : (tb1301.getD (Int32.toNatClampNeg (nI (p0 - 1100))) 0) = 1
  · have h := h.1 q0
    refine g_tabin (pc := 8) (tgt := 48) (off := 40) hX (v := 1) q0 d_Ca_fits_8 (by decide) (by decide) (by decide +kernel) (by decide) ?_
    refine g_aload_n (pc := 48) hX d_Ca_fits_48 rfl 1 rfl ?_
    obtain ⟨f5, h⟩ := h
    refine g_callV_Z (pc := 49) hX hR f5 cf7 rfl lk_Ca_234 mf_Mx_isThere (c_Mx_isThere _ _ _ h) rfl rfl rfl ⟨by decide, by decide⟩ (cat_sum _ (Nat.le_of_ble_eq_true rfl)) d_Ca_fits_49 (fun r4 A3 h => ?_)
    exact g_zret hX hQ r4 rfl h d_Ca_fits_52
  by_cases q1 : (tb1301.getD (Int32.toNatClampNeg (nI (p0 - 1100))) 0) = 2
  · have h := h.2.1 q1
    refine g_tabin (pc := 8) (tgt := 53) (off := 45) hX (v := 2) q1 d_Ca_fits_8 (by decide) (by decide) (by decide +kernel) (by decide) ?_
    refine g_aload_n (pc := 53) hX d_Ca_fits_53 rfl 1 rfl ?_
    obtain ⟨f8, h⟩ := h
    refine g_callV_Z (pc := 54) hX hR f8 cf7 rfl lk_Ca_234 mf_Mx_isThere (c_Mx_isThere _ _ _ h) rfl rfl rfl ⟨by decide, by decide⟩ (cat_sum _ (Nat.le_of_ble_eq_true rfl)) d_Ca_fits_54 (fun r7 A6 h => ?_)
    exact g_zret hX hQ r7 rfl h d_Ca_fits_57
  by_cases q2 : (tb1301.getD (Int32.toNatClampNeg (nI (p0 - 1100))) 0) = 3
  · have h := h.2.2.1 q2
    refine g_tabin (pc := 8) (tgt := 58) (off := 50) hX (v := 3) q2 d_Ca_fits_8 (by decide) (by decide) (by decide +kernel) (by decide) ?_
    refine g_aload_n (pc := 58) hX d_Ca_fits_58 rfl 1 rfl ?_
    obtain ⟨f11, h⟩ := h
    refine g_callV_Z (pc := 59) hX hR f11 cf7 rfl lk_Ca_234 mf_Mx_isThere (c_Mx_isThere _ _ _ h) rfl rfl rfl ⟨by decide, by decide⟩ (cat_sum _ (Nat.le_of_ble_eq_true rfl)) d_Ca_fits_59 (fun r10 A9 h => ?_)
    refine g_ifB_eq (pc := 62) (tgt := 76) hX d_Ca_fits_62 (by decide) (fun q => ?_) (fun q => ?_)
    · have h := h.1 q
      refine g_iconst (pc := 76) (v := 0) hX d_Ca_fits_76 (by decide) ?_
      exact g_zret hX hQ false rfl h d_Ca_fits_77
    · have h := h.2 q
      refine g_aload_n (pc := 65) hX d_Ca_fits_65 rfl 1 rfl ?_
      refine g_callV_Z (pc := 66) hX hR f11 cf7 rfl lk_Ca_237 mf_Mx_isSquare (c_Mx_isSquare _ _ _ h) rfl rfl rfl ⟨by decide, by decide⟩ (cat_sum _ (Nat.le_of_ble_eq_true rfl)) d_Ca_fits_66 (fun r13 A12 h => ?_)
      refine g_ifB_eq (pc := 69) (tgt := 76) hX d_Ca_fits_69 (by decide) (fun q => ?_) (fun q => ?_)
      · have h := h.1 q
        refine g_iconst (pc := 76) (v := 0) hX d_Ca_fits_76 (by decide) ?_
        exact g_zret hX hQ false rfl h d_Ca_fits_77
      · have h := h.2 q
        refine g_iconst (pc := 72) (v := 1) hX d_Ca_fits_72 (by decide) ?_
        refine g_goto (pc := 73) (tgt := 77) hX d_Ca_fits_73 (by decide) ?_
        exact g_zret hX hQ true rfl h d_Ca_fits_77
  by_cases q3 : (tb1301.getD (Int32.toNatClampNeg (nI (p0 - 1100))) 0) = 4
  · have h := h.2.2.2.1 q3
    refine g_tabin (pc := 8) (tgt := 78) (off := 70) hX (v := 4) q3 d_Ca_fits_8 (by decide) (by decide) (by decide +kernel) (by decide) ?_
    refine g_aload_n (pc := 78) hX d_Ca_fits_78 rfl 2 rfl ?_
    obtain ⟨f16, h⟩ := h
    refine g_callV_Z (pc := 79) hX hR f16 cf7 rfl lk_Ca_234 mf_Mx_isThere (c_Mx_isThere _ _ _ h) rfl rfl rfl ⟨by decide, by decide⟩ (cat_sum _ (Nat.le_of_ble_eq_true rfl)) d_Ca_fits_79 (fun r15 A14 h => ?_)
    refine g_ifB_eq (pc := 82) (tgt := 97) hX d_Ca_fits_82 (by decide) (fun q => ?_) (fun q => ?_)
    · have h := h.1 q
      refine g_iconst (pc := 97) (v := 0) hX d_Ca_fits_97 (by decide) ?_
      exact g_zret hX hQ false rfl h d_Ca_fits_98
    · have h := h.2 q
      refine g_aload_n (pc := 85) hX d_Ca_fits_85 rfl 2 rfl ?_
      refine g_aload_n (pc := 86) hX d_Ca_fits_86 rfl 3 rfl ?_
      refine g_callV_Z (pc := 87) hX hR f16 cf7 rfl lk_Ca_240 mf_Mx_isSizedAs (c_Mx_isSizedAs _ _ _ _ h) rfl rfl rfl ⟨by decide, by decide⟩ (cat_sum _ (Nat.le_of_ble_eq_true rfl)) d_Ca_fits_87 (fun r18 A17 h => ?_)
      refine g_ifB_eq (pc := 90) (tgt := 97) hX d_Ca_fits_90 (by decide) (fun q => ?_) (fun q => ?_)
      · have h := h.1 q
        refine g_iconst (pc := 97) (v := 0) hX d_Ca_fits_97 (by decide) ?_
        exact g_zret hX hQ false rfl h d_Ca_fits_98
      · have h := h.2 q
        refine g_iconst (pc := 93) (v := 1) hX d_Ca_fits_93 (by decide) ?_
        refine g_goto (pc := 94) (tgt := 98) hX d_Ca_fits_94 (by decide) ?_
        exact g_zret hX hQ true rfl h d_Ca_fits_98
  by_cases q4 : (tb1301.getD (Int32.toNatClampNeg (nI (p0 - 1100))) 0) = 5
  · have h := h.2.2.2.2.1 q4
    refine g_tabin (pc := 8) (tgt := 99) (off := 91) hX (v := 5) q4 d_Ca_fits_8 (by decide) (by decide) (by decide +kernel) (by decide) ?_
    refine g_aload_n (pc := 99) hX d_Ca_fits_99 rfl 2 rfl ?_
    obtain ⟨f21, h⟩ := h
    refine g_callV_Z (pc := 100) hX hR f21 cf7 rfl lk_Ca_234 mf_Mx_isThere (c_Mx_isThere _ _ _ h) rfl rfl rfl ⟨by decide, by decide⟩ (cat_sum _ (Nat.le_of_ble_eq_true rfl)) d_Ca_fits_100 (fun r20 A19 h => ?_)
    refine g_ifB_eq (pc := 103) (tgt := 118) hX d_Ca_fits_103 (by decide) (fun q => ?_) (fun q => ?_)
    · have h := h.1 q
      refine g_iconst (pc := 118) (v := 0) hX d_Ca_fits_118 (by decide) ?_
      exact g_zret hX hQ false rfl h d_Ca_fits_119
    · have h := h.2 q
      refine g_aload_n (pc := 106) hX d_Ca_fits_106 rfl 2 rfl ?_
      refine g_aload_n (pc := 107) hX d_Ca_fits_107 rfl 3 rfl ?_
      refine g_callV_Z (pc := 108) hX hR f21 cf7 rfl lk_Ca_240 mf_Mx_isSizedAs (c_Mx_isSizedAs _ _ _ _ h) rfl rfl rfl ⟨by decide, by decide⟩ (cat_sum _ (Nat.le_of_ble_eq_true rfl)) d_Ca_fits_108 (fun r23 A22 h => ?_)
      refine g_ifB_eq (pc := 111) (tgt := 118) hX d_Ca_fits_111 (by decide) (fun q => ?_) (fun q => ?_)
      · have h := h.1 q
        refine g_iconst (pc := 118) (v := 0) hX d_Ca_fits_118 (by decide) ?_
        exact g_zret hX hQ false rfl h d_Ca_fits_119
      · have h := h.2 q
        refine g_iconst (pc := 114) (v := 1) hX d_Ca_fits_114 (by decide) ?_
        refine g_goto (pc := 115) (tgt := 119) hX d_Ca_fits_115 (by decide) ?_
        exact g_zret hX hQ true rfl h d_Ca_fits_119
  by_cases q5 : (tb1301.getD (Int32.toNatClampNeg (nI (p0 - 1100))) 0) = 6
  · have h := h.2.2.2.2.2.1 q5
    refine g_tabin (pc := 8) (tgt := 120) (off := 112) hX (v := 6) q5 d_Ca_fits_8 (by decide) (by decide) (by decide +kernel) (by decide) ?_
    refine g_aload_n (pc := 120) hX d_Ca_fits_120 rfl 2 rfl ?_
    obtain ⟨f26, h⟩ := h
    refine g_callV_Z (pc := 121) hX hR f26 cf7 rfl lk_Ca_234 mf_Mx_isThere (c_Mx_isThere _ _ _ h) rfl rfl rfl ⟨by decide, by decide⟩ (cat_sum _ (Nat.le_of_ble_eq_true rfl)) d_Ca_fits_121 (fun r25 A24 h => ?_)
    refine g_ifB_eq (pc := 124) (tgt := 149) hX d_Ca_fits_124 (by decide) (fun q => ?_) (fun q => ?_)
    · have h := h.1 q
      refine g_iconst (pc := 149) (v := 0) hX d_Ca_fits_149 (by decide) ?_
      exact g_zret hX hQ false rfl h d_Ca_fits_150
    · have h := h.2 q
      refine g_aload_n (pc := 127) hX d_Ca_fits_127 rfl 3 rfl ?_
      obtain ⟨f29, h⟩ := h
      refine g_callV_Z (pc := 128) hX hR f29 cf7 rfl lk_Ca_234 mf_Mx_isThere (c_Mx_isThere _ _ _ h) rfl rfl rfl ⟨by decide, by decide⟩ (cat_sum _ (Nat.le_of_ble_eq_true rfl)) d_Ca_fits_128 (fun r28 A27 h => ?_)
      refine g_ifB_eq (pc := 131) (tgt := 149) hX d_Ca_fits_131 (by decide) (fun q => ?_) (fun q => ?_)
      · have h := h.1 q
        refine g_iconst (pc := 149) (v := 0) hX d_Ca_fits_149 (by decide) ?_
        exact g_zret hX hQ false rfl h d_Ca_fits_150
      · have h := h.2 q
        refine g_aload_n (pc := 134) hX d_Ca_fits_134 rfl 2 rfl ?_
        refine g_getI (pc := 135) hX fl_Ca_214 rfl f26 d_Ca_fits_135 ?_
        refine g_aload_n (pc := 138) hX d_Ca_fits_138 rfl 3 rfl ?_
        refine g_getI (pc := 139) hX fl_Ca_211 rfl f29 d_Ca_fits_139 ?_
        refine g_icmp_ne (pc := 142) (tgt := 149) hX d_Ca_fits_142 (by decide) (fun q => ?_) (fun q => ?_)
        · have h := h.1 q
          refine g_iconst (pc := 149) (v := 0) hX d_Ca_fits_149 (by decide) ?_
          exact g_zret hX hQ false rfl h d_Ca_fits_150
        · have h := h.2 q
          refine g_iconst (pc := 145) (v := 1) hX d_Ca_fits_145 (by decide) ?_
          refine g_goto (pc := 146) (tgt := 150) hX d_Ca_fits_146 (by decide) ?_
          exact g_zret hX hQ true rfl h d_Ca_fits_150
  have h := h.2.2.2.2.2.2 q0 q1 q2 q3 q4 q5
  refine g_tabout (pc := 8) (tgt := 151) hX (vs := [(1 : Int32), (2 : Int32), (3 : Int32), (4 : Int32), (5 : Int32), (6 : Int32)]) (List.forall_mem_cons.mpr ⟨q0, List.forall_mem_cons.mpr ⟨q1, List.forall_mem_cons.mpr ⟨q2, List.forall_mem_cons.mpr ⟨q3, List.forall_mem_cons.mpr ⟨q4, List.forall_mem_cons.mpr ⟨q5, fun _ h9 => absurd h9 List.not_mem_nil⟩⟩⟩⟩⟩⟩) d_Ca_fits_8 (by decide +kernel) (by decide) ?_
  refine g_aload_n (pc := 151) hX d_Ca_fits_151 rfl 2 rfl ?_
  obtain ⟨f32, h⟩ := h
  refine g_callV_Z (pc := 152) hX hR f32 cf7 rfl lk_Ca_234 mf_Mx_isThere (c_Mx_isThere _ _ _ h) rfl rfl rfl ⟨by decide, by decide⟩ (cat_sum _ (Nat.le_of_ble_eq_true rfl)) d_Ca_fits_152 (fun r31 A30 h => ?_)
  exact g_zret hX hQ r31 rfl h d_Ca_fits_155
def wp_Ca_shapeDraft (o : Nat) (p1 : Nat) (p2 : Nat) (p3 : Nat) (p4 : Nat) (A : Mem) (K : Mem → Prop) : Prop := (1100 ≤ p1 ∧ p1 < 1109) ∧ vp_in (nI (p1 - 1100)) 9 ∧ (((tb1301.getD (Int32.toNatClampNeg (nI (p1 - 1100))) 0) = 1 → kd o = 6 ∧ kd p2 = 7 ∧ kd (gR A o 5) = 7 ∧ wp_Mx_shape (gR A o 5) (gI A p2 0) (gI A p2 1) A (fun (A5 : Mem) => K A5)) ∧ ((tb1301.getD (Int32.toNatClampNeg (nI (p1 - 1100))) 0) = 2 → kd o = 6 ∧ kd p2 = 7 ∧ kd (gR A o 5) = 7 ∧ wp_Mx_shape (gR A o 5) (gI A p2 0) (gI A p2 1) A (fun (A9 : Mem) => K A9)) ∧ ((tb1301.getD (Int32.toNatClampNeg (nI (p1 - 1100))) 0) = 3 → kd o = 6 ∧ kd p2 = 7 ∧ kd (gR A o 5) = 7 ∧ wp_Mx_shape (gR A o 5) (gI A p2 0) (gI A p2 1) A (fun (A13 : Mem) => K A13)) ∧ ((tb1301.getD (Int32.toNatClampNeg (nI (p1 - 1100))) 0) = 4 → kd o = 6 ∧ kd p3 = 7 ∧ kd (gR A o 5) = 7 ∧ wp_Mx_shape (gR A o 5) (gI A p3 0) (gI A p3 1) A (fun (A17 : Mem) => K A17)) ∧ ((tb1301.getD (Int32.toNatClampNeg (nI (p1 - 1100))) 0) = 5 → kd o = 6 ∧ kd p3 = 7 ∧ kd (gR A o 5) = 7 ∧ wp_Mx_shape (gR A o 5) (gI A p3 0) (gI A p3 1) A (fun (A21 : Mem) => K A21)) ∧ ((tb1301.getD (Int32.toNatClampNeg (nI (p1 - 1100))) 0) = 6 → kd o = 6 ∧ kd p3 = 7 ∧ kd p4 = 7 ∧ kd (gR A o 5) = 7 ∧ wp_Mx_shape (gR A o 5) (gI A p3 0) (gI A p4 1) A (fun (A26 : Mem) => K A26)) ∧ ((tb1301.getD (Int32.toNatClampNeg (nI (p1 - 1100))) 0) = 7 → kd o = 6 ∧ kd p3 = 7 ∧ kd (gR A o 5) = 7 ∧ wp_Mx_shape (gR A o 5) (gI A p3 1) (gI A p3 0) A (fun (A30 : Mem) => K A30)) ∧ (¬ (tb1301.getD (Int32.toNatClampNeg (nI (p1 - 1100))) 0) = 1 → ¬ (tb1301.getD (Int32.toNatClampNeg (nI (p1 - 1100))) 0) = 2 → ¬ (tb1301.getD (Int32.toNatClampNeg (nI (p1 - 1100))) 0) = 3 → ¬ (tb1301.getD (Int32.toNatClampNeg (nI (p1 - 1100))) 0) = 4 → ¬ (tb1301.getD (Int32.toNatClampNeg (nI (p1 - 1100))) 0) = 5 → ¬ (tb1301.getD (Int32.toNatClampNeg (nI (p1 - 1100))) 0) = 6 → ¬ (tb1301.getD (Int32.toNatClampNeg (nI (p1 - 1100))) 0) = 7 → kd o = 6 ∧ kd p3 = 7 ∧ kd (gR A o 5) = 7 ∧ wp_Mx_shape (gR A o 5) (gI A p3 0) (gI A p3 1) A (fun (A34 : Mem) => K A34)))
set_option maxRecDepth 100000 in
set_option maxHeartbeats 4000000 in
theorem c_Ca_shapeDraft (o : Nat) (p1 : Nat) (p2 : Nat) (p3 : Nat) (p4 : Nat) (A : Mem) (K : Mem → Prop) (h : wp_Ca_shapeDraft o p1 p2 p3 p4 A K) : CtV y_Ca_shapeDraft prog_3_method_26_code 5 1 23 (fun E => [cr E o, cr E p1, cr E p2, cr E p3, cr E p4]) A K := by
  refine ctV_of "BasicMachine$Calculator" (by decide) rfl (fun E => [(0, cr E o), (1, cr E p1), (2, cr E p2), (3, cr E p3), (4, cr E p4)]) (fun E => by simp [lg_sl, cr_cat, ca_i, ca_l, ca_d]) (fun E => by simp [lv_args, cr_cat, ca_i, ca_l, ca_d]) (fun X E hX hR hN hQ => ?_)
  unfold wp_Ca_shapeDraft at h
  refine g_getsT (pc := 0) hX (gSF hX).2.2.2.2.1 (by decide) ls_Ca_225 d_Ca_shapeDraft_0 ?_
  refine g_aload_n (pc := 3) hX d_Ca_shapeDraft_3 rfl 1 rfl ?_
  obtain ⟨f1, h⟩ := h
  refine g_ordinal (pc := 4) (C := "BasicMachine$Form") (d := "LBasicMachine$Form;") (nm := en1100) (b := 1100) hX hR (by decide) ⟨f1.1, by have h9 := f1; show _ - 1100 < 9; omega⟩ (fun _ _ _ h9 => h9.2.1) lk_Ca_230 so_Form so_Formb (by decide) (cat_sum _ (Nat.le_of_ble_eq_true rfl)) d_Ca_shapeDraft_4 ?_
  obtain ⟨f2, h⟩ := h
  refine g_tabld (pc := 7) hX (gSF hX).2.2.2.2.1 (by decide) f2 d_Ca_shapeDraft_7 ?_
  by_cases q0 : (tb1301.getD (Int32.toNatClampNeg (nI (p1 - 1100))) 0) = 1
  · have h := h.1 q0
    refine g_tabin (pc := 8) (tgt := 52) (off := 44) hX (v := 1) q0 d_Ca_shapeDraft_8 (by decide) (by decide) (by decide +kernel) (by decide) ?_
    refine g_aload_n (pc := 52) hX d_Ca_shapeDraft_52 rfl 0 rfl ?_
    obtain ⟨f3, h⟩ := h
    refine g_getR (pc := 53) hX fl_Ca_37 rfl f3 d_Ca_shapeDraft_53 ?_
    refine g_aload_n (pc := 56) hX d_Ca_shapeDraft_56 rfl 2 rfl ?_
    obtain ⟨f4, h⟩ := h
    refine g_getI (pc := 57) hX fl_Ca_211 rfl f4 d_Ca_shapeDraft_57 ?_
    refine g_aload_n (pc := 60) hX d_Ca_shapeDraft_60 rfl 2 rfl ?_
    refine g_getI (pc := 61) hX fl_Ca_214 rfl f4 d_Ca_shapeDraft_61 ?_
    obtain ⟨f6, h⟩ := h
    refine g_callV_V (pc := 64) hX hR f6 cf7 rfl lk_Ca_53 mf_Mx_shape (c_Mx_shape _ _ _ _ _ h) rfl rfl rfl ⟨by decide, by decide⟩ (cat_sum _ (Nat.le_of_ble_eq_true rfl)) d_Ca_shapeDraft_64 (fun A5 h => ?_)
    refine g_goto (pc := 67) (tgt := 158) hX d_Ca_shapeDraft_67 (by decide) ?_
    exact g_vret hX hQ h d_Ca_shapeDraft_158
  by_cases q1 : (tb1301.getD (Int32.toNatClampNeg (nI (p1 - 1100))) 0) = 2
  · have h := h.2.1 q1
    refine g_tabin (pc := 8) (tgt := 70) (off := 62) hX (v := 2) q1 d_Ca_shapeDraft_8 (by decide) (by decide) (by decide +kernel) (by decide) ?_
    refine g_aload_n (pc := 70) hX d_Ca_shapeDraft_70 rfl 0 rfl ?_
    obtain ⟨f7, h⟩ := h
    refine g_getR (pc := 71) hX fl_Ca_37 rfl f7 d_Ca_shapeDraft_71 ?_
    refine g_aload_n (pc := 74) hX d_Ca_shapeDraft_74 rfl 2 rfl ?_
    obtain ⟨f8, h⟩ := h
    refine g_getI (pc := 75) hX fl_Ca_211 rfl f8 d_Ca_shapeDraft_75 ?_
    refine g_aload_n (pc := 78) hX d_Ca_shapeDraft_78 rfl 2 rfl ?_
    refine g_getI (pc := 79) hX fl_Ca_214 rfl f8 d_Ca_shapeDraft_79 ?_
    obtain ⟨f10, h⟩ := h
    refine g_callV_V (pc := 82) hX hR f10 cf7 rfl lk_Ca_53 mf_Mx_shape (c_Mx_shape _ _ _ _ _ h) rfl rfl rfl ⟨by decide, by decide⟩ (cat_sum _ (Nat.le_of_ble_eq_true rfl)) d_Ca_shapeDraft_82 (fun A9 h => ?_)
    refine g_goto (pc := 85) (tgt := 158) hX d_Ca_shapeDraft_85 (by decide) ?_
    exact g_vret hX hQ h d_Ca_shapeDraft_158
  by_cases q2 : (tb1301.getD (Int32.toNatClampNeg (nI (p1 - 1100))) 0) = 3
  · have h := h.2.2.1 q2
    refine g_tabin (pc := 8) (tgt := 88) (off := 80) hX (v := 3) q2 d_Ca_shapeDraft_8 (by decide) (by decide) (by decide +kernel) (by decide) ?_
    refine g_aload_n (pc := 88) hX d_Ca_shapeDraft_88 rfl 0 rfl ?_
    obtain ⟨f11, h⟩ := h
    refine g_getR (pc := 89) hX fl_Ca_37 rfl f11 d_Ca_shapeDraft_89 ?_
    refine g_aload_n (pc := 92) hX d_Ca_shapeDraft_92 rfl 2 rfl ?_
    obtain ⟨f12, h⟩ := h
    refine g_getI (pc := 93) hX fl_Ca_211 rfl f12 d_Ca_shapeDraft_93 ?_
    refine g_aload_n (pc := 96) hX d_Ca_shapeDraft_96 rfl 2 rfl ?_
    refine g_getI (pc := 97) hX fl_Ca_214 rfl f12 d_Ca_shapeDraft_97 ?_
    obtain ⟨f14, h⟩ := h
    refine g_callV_V (pc := 100) hX hR f14 cf7 rfl lk_Ca_53 mf_Mx_shape (c_Mx_shape _ _ _ _ _ h) rfl rfl rfl ⟨by decide, by decide⟩ (cat_sum _ (Nat.le_of_ble_eq_true rfl)) d_Ca_shapeDraft_100 (fun A13 h => ?_)
    refine g_goto (pc := 103) (tgt := 158) hX d_Ca_shapeDraft_103 (by decide) ?_
    exact g_vret hX hQ h d_Ca_shapeDraft_158
  by_cases q3 : (tb1301.getD (Int32.toNatClampNeg (nI (p1 - 1100))) 0) = 4
  · have h := h.2.2.2.1 q3
    refine g_tabin (pc := 8) (tgt := 143) (off := 135) hX (v := 4) q3 d_Ca_shapeDraft_8 (by decide) (by decide) (by decide +kernel) (by decide) ?_
    refine g_aload_n (pc := 143) hX d_Ca_shapeDraft_143 rfl 0 rfl ?_
    obtain ⟨f15, h⟩ := h
    refine g_getR (pc := 144) hX fl_Ca_37 rfl f15 d_Ca_shapeDraft_144 ?_
    refine g_aload_n (pc := 147) hX d_Ca_shapeDraft_147 rfl 3 rfl ?_
    obtain ⟨f16, h⟩ := h
    refine g_getI (pc := 148) hX fl_Ca_211 rfl f16 d_Ca_shapeDraft_148 ?_
    refine g_aload_n (pc := 151) hX d_Ca_shapeDraft_151 rfl 3 rfl ?_
    refine g_getI (pc := 152) hX fl_Ca_214 rfl f16 d_Ca_shapeDraft_152 ?_
    obtain ⟨f18, h⟩ := h
    refine g_callV_V (pc := 155) hX hR f18 cf7 rfl lk_Ca_53 mf_Mx_shape (c_Mx_shape _ _ _ _ _ h) rfl rfl rfl ⟨by decide, by decide⟩ (cat_sum _ (Nat.le_of_ble_eq_true rfl)) d_Ca_shapeDraft_155 (fun A17 h => ?_)
    exact g_vret hX hQ h d_Ca_shapeDraft_158
  by_cases q4 : (tb1301.getD (Int32.toNatClampNeg (nI (p1 - 1100))) 0) = 5
  · have h := h.2.2.2.2.1 q4
    refine g_tabin (pc := 8) (tgt := 143) (off := 135) hX (v := 5) q4 d_Ca_shapeDraft_8 (by decide) (by decide) (by decide +kernel) (by decide) ?_
    refine g_aload_n (pc := 143) hX d_Ca_shapeDraft_143 rfl 0 rfl ?_
    obtain ⟨f19, h⟩ := h
    refine g_getR (pc := 144) hX fl_Ca_37 rfl f19 d_Ca_shapeDraft_144 ?_
    refine g_aload_n (pc := 147) hX d_Ca_shapeDraft_147 rfl 3 rfl ?_
    obtain ⟨f20, h⟩ := h
    refine g_getI (pc := 148) hX fl_Ca_211 rfl f20 d_Ca_shapeDraft_148 ?_
    refine g_aload_n (pc := 151) hX d_Ca_shapeDraft_151 rfl 3 rfl ?_
    refine g_getI (pc := 152) hX fl_Ca_214 rfl f20 d_Ca_shapeDraft_152 ?_
    obtain ⟨f22, h⟩ := h
    refine g_callV_V (pc := 155) hX hR f22 cf7 rfl lk_Ca_53 mf_Mx_shape (c_Mx_shape _ _ _ _ _ h) rfl rfl rfl ⟨by decide, by decide⟩ (cat_sum _ (Nat.le_of_ble_eq_true rfl)) d_Ca_shapeDraft_155 (fun A21 h => ?_)
    exact g_vret hX hQ h d_Ca_shapeDraft_158
  by_cases q5 : (tb1301.getD (Int32.toNatClampNeg (nI (p1 - 1100))) 0) = 6
  · have h := h.2.2.2.2.2.1 q5
    refine g_tabin (pc := 8) (tgt := 106) (off := 98) hX (v := 6) q5 d_Ca_shapeDraft_8 (by decide) (by decide) (by decide +kernel) (by decide) ?_
    refine g_aload_n (pc := 106) hX d_Ca_shapeDraft_106 rfl 0 rfl ?_
    obtain ⟨f23, h⟩ := h
    refine g_getR (pc := 107) hX fl_Ca_37 rfl f23 d_Ca_shapeDraft_107 ?_
    refine g_aload_n (pc := 110) hX d_Ca_shapeDraft_110 rfl 3 rfl ?_
    obtain ⟨f24, h⟩ := h
    refine g_getI (pc := 111) hX fl_Ca_211 rfl f24 d_Ca_shapeDraft_111 ?_
    refine g_aload (pc := 114) hX d_Ca_shapeDraft_114 4 rfl ?_
    obtain ⟨f25, h⟩ := h
    refine g_getI (pc := 116) hX fl_Ca_214 rfl f25 d_Ca_shapeDraft_116 ?_
    obtain ⟨f27, h⟩ := h
    refine g_callV_V (pc := 119) hX hR f27 cf7 rfl lk_Ca_53 mf_Mx_shape (c_Mx_shape _ _ _ _ _ h) rfl rfl rfl ⟨by decide, by decide⟩ (cat_sum _ (Nat.le_of_ble_eq_true rfl)) d_Ca_shapeDraft_119 (fun A26 h => ?_)
    refine g_goto (pc := 122) (tgt := 158) hX d_Ca_shapeDraft_122 (by decide) ?_
    exact g_vret hX hQ h d_Ca_shapeDraft_158
  by_cases q6 : (tb1301.getD (Int32.toNatClampNeg (nI (p1 - 1100))) 0) = 7
  · have h := h.2.2.2.2.2.2.1 q6
    refine g_tabin (pc := 8) (tgt := 125) (off := 117) hX (v := 7) q6 d_Ca_shapeDraft_8 (by decide) (by decide) (by decide +kernel) (by decide) ?_
    refine g_aload_n (pc := 125) hX d_Ca_shapeDraft_125 rfl 0 rfl ?_
    obtain ⟨f28, h⟩ := h
    refine g_getR (pc := 126) hX fl_Ca_37 rfl f28 d_Ca_shapeDraft_126 ?_
    refine g_aload_n (pc := 129) hX d_Ca_shapeDraft_129 rfl 3 rfl ?_
    obtain ⟨f29, h⟩ := h
    refine g_getI (pc := 130) hX fl_Ca_214 rfl f29 d_Ca_shapeDraft_130 ?_
    refine g_aload_n (pc := 133) hX d_Ca_shapeDraft_133 rfl 3 rfl ?_
    refine g_getI (pc := 134) hX fl_Ca_211 rfl f29 d_Ca_shapeDraft_134 ?_
    obtain ⟨f31, h⟩ := h
    refine g_callV_V (pc := 137) hX hR f31 cf7 rfl lk_Ca_53 mf_Mx_shape (c_Mx_shape _ _ _ _ _ h) rfl rfl rfl ⟨by decide, by decide⟩ (cat_sum _ (Nat.le_of_ble_eq_true rfl)) d_Ca_shapeDraft_137 (fun A30 h => ?_)
    refine g_goto (pc := 140) (tgt := 158) hX d_Ca_shapeDraft_140 (by decide) ?_
    exact g_vret hX hQ h d_Ca_shapeDraft_158
  have h := h.2.2.2.2.2.2.2 q0 q1 q2 q3 q4 q5 q6
  refine g_tabout (pc := 8) (tgt := 143) hX (vs := [(1 : Int32), (2 : Int32), (3 : Int32), (4 : Int32), (5 : Int32), (6 : Int32), (7 : Int32)]) (List.forall_mem_cons.mpr ⟨q0, List.forall_mem_cons.mpr ⟨q1, List.forall_mem_cons.mpr ⟨q2, List.forall_mem_cons.mpr ⟨q3, List.forall_mem_cons.mpr ⟨q4, List.forall_mem_cons.mpr ⟨q5, List.forall_mem_cons.mpr ⟨q6, fun _ h9 => absurd h9 List.not_mem_nil⟩⟩⟩⟩⟩⟩⟩) d_Ca_shapeDraft_8 (by decide +kernel) (by decide) ?_
  refine g_aload_n (pc := 143) hX d_Ca_shapeDraft_143 rfl 0 rfl ?_
  obtain ⟨f32, h⟩ := h
  refine g_getR (pc := 144) hX fl_Ca_37 rfl f32 d_Ca_shapeDraft_144 ?_
  refine g_aload_n (pc := 147) hX d_Ca_shapeDraft_147 rfl 3 rfl ?_
  obtain ⟨f33, h⟩ := h
  refine g_getI (pc := 148) hX fl_Ca_211 rfl f33 d_Ca_shapeDraft_148 ?_
  refine g_aload_n (pc := 151) hX d_Ca_shapeDraft_151 rfl 3 rfl ?_
  refine g_getI (pc := 152) hX fl_Ca_214 rfl f33 d_Ca_shapeDraft_152 ?_
  obtain ⟨f35, h⟩ := h
  refine g_callV_V (pc := 155) hX hR f35 cf7 rfl lk_Ca_53 mf_Mx_shape (c_Mx_shape _ _ _ _ _ h) rfl rfl rfl ⟨by decide, by decide⟩ (cat_sum _ (Nat.le_of_ble_eq_true rfl)) d_Ca_shapeDraft_155 (fun A34 h => ?_)
  exact g_vret hX hQ h d_Ca_shapeDraft_158
def wp_Ca_sumOfProducts_c6 (K : UInt64 → Mem → Prop) : Nat → Nat → Nat → Nat → Int32 → Int32 → UInt64 → Int32 → Mem → Prop
  | 0, _, _, _, _, _, _, _, _ => False
  | n + 1, x0, x1, x2, x3, x4, x5, x7, A => kd x1 = 7 ∧ (((gI A x1 1) < x7 → K x5 A) ∧ (¬ (gI A x1 1) < x7 → wp_Mx_placeOf x1 (Int32.toInt64 x3) (Int32.toInt64 x7) A (fun (r3 : Int32) (A2 : Mem) => wp_Mx_get x1 r3 A2 (fun (r5 : UInt64) (A4 : Mem) => kd x2 = 7 ∧ wp_Mx_placeOf x2 (Int32.toInt64 x7) (Int32.toInt64 x4) A4 (fun (r7 : Int32) (A6 : Mem) => wp_Mx_get x2 r7 A6 (fun (r10 : UInt64) (A9 : Mem) => vf_n64 (FP.dmul r5 r10) ∧ kd x0 = 6 ∧ wp_Ca_result x0 (FP.dmul r5 r10) A9 (fun (r13 : UInt64) (A12 : Mem) => vf_n64 (FP.dadd x5 r13) ∧ wp_Ca_result x0 (FP.dadd x5 r13) A12 (fun (r17 : UInt64) (A16 : Mem) => wp_Ca_sumOfProducts_c6 K n x0 x1 x2 x3 x4 r17 (x7 + 1) A16))))))))
def wp_Ca_sumOfProducts (o : Nat) (p1 : Nat) (p2 : Nat) (p3 : Int32) (p4 : Int32) (A : Mem) (K : UInt64 → Mem → Prop) : Prop := (∃ n9 : Nat, wp_Ca_sumOfProducts_c6 K n9 o p1 p2 p3 p4 FP.dconst0 1 A)
set_option maxRecDepth 100000 in
set_option maxHeartbeats 4000000 in
theorem k_Ca_sumOfProducts_c6 {X : CXT} {E : EVT} {K : UInt64 → Mem → Prop} (hX : Gd X E "BasicMachine$Calculator" prog_3_method_28_code) (hR : Rm X 1 24) (hN : xnL X = 8) (hQ : QD X E K) : ∀ (n : Nat) (x0 : Nat) (x1 : Nat) (x2 : Nat) (x3 : Int32) (x4 : Int32) (x5 : UInt64) (x7 : Int32) (A : Mem), wp_Ca_sumOfProducts_c6 K n x0 x1 x2 x3 x4 x5 x7 A → G X E A 6 [(0, cr E x0), (1, cr E x1), (2, cr E x2), (3, .int (x3)), (4, .int (x4)), (5, .double (x5)), (7, .int (x7))] [] := by
  intro n
  induction n with
  | zero => intro x0 x1 x2 x3 x4 x5 x7 A h; exact h.elim
  | succ n ih =>
    intro x0 x1 x2 x3 x4 x5 x7 A h
    rw [wp_Ca_sumOfProducts_c6] at h
    refine g_iload (pc := 6) hX d_Ca_sumOfProducts_6 6 rfl ?_
    refine g_aload_n (pc := 8) hX d_Ca_sumOfProducts_8 rfl 1 rfl ?_
    obtain ⟨f1, h⟩ := h
    refine g_getI (pc := 9) hX fl_Ca_214 rfl f1 d_Ca_sumOfProducts_9 ?_
    refine g_icmp_gt (pc := 12) (tgt := 62) hX d_Ca_sumOfProducts_12 (by decide) (fun q => ?_) (fun q => ?_)
    · have h := h.1 q
      refine g_dload (pc := 62) hX d_Ca_sumOfProducts_62 5 rfl ?_
      exact g_dret hX hQ h d_Ca_sumOfProducts_64
    · have h := h.2 q
      refine g_aload_n (pc := 15) hX d_Ca_sumOfProducts_15 rfl 0 rfl ?_
      refine g_dload (pc := 16) hX d_Ca_sumOfProducts_16 5 rfl ?_
      refine g_aload_n (pc := 18) hX d_Ca_sumOfProducts_18 rfl 0 rfl ?_
      refine g_aload_n (pc := 19) hX d_Ca_sumOfProducts_19 rfl 1 rfl ?_
      refine g_aload_n (pc := 20) hX d_Ca_sumOfProducts_20 rfl 1 rfl ?_
      refine g_iload_n (pc := 21) hX d_Ca_sumOfProducts_21 rfl 3 rfl ?_
      refine g_i2l (pc := 22) hX d_Ca_sumOfProducts_22 ?_
      refine g_iload (pc := 23) hX d_Ca_sumOfProducts_23 6 rfl ?_
      refine g_i2l (pc := 25) hX d_Ca_sumOfProducts_25 ?_
      refine g_callV_I (pc := 26) hX hR f1 cf7 rfl lk_Ca_163 mf_Mx_placeOf (c_Mx_placeOf _ _ _ _ _ h) rfl rfl rfl ⟨by decide, by decide⟩ (cat_sum _ (Nat.le_of_ble_eq_true rfl)) d_Ca_sumOfProducts_26 (fun r3 A2 h => ?_)
      refine g_callV_D (pc := 29) hX hR f1 cf7 rfl lk_Ca_170 mf_Mx_get (c_Mx_get _ _ _ _ h) rfl rfl rfl ⟨by decide, by decide⟩ (cat_sum _ (Nat.le_of_ble_eq_true rfl)) d_Ca_sumOfProducts_29 (fun r5 A4 h => ?_)
      refine g_aload_n (pc := 32) hX d_Ca_sumOfProducts_32 rfl 2 rfl ?_
      refine g_aload_n (pc := 33) hX d_Ca_sumOfProducts_33 rfl 2 rfl ?_
      refine g_iload (pc := 34) hX d_Ca_sumOfProducts_34 6 rfl ?_
      refine g_i2l (pc := 36) hX d_Ca_sumOfProducts_36 ?_
      refine g_iload (pc := 37) hX d_Ca_sumOfProducts_37 4 rfl ?_
      refine g_i2l (pc := 39) hX d_Ca_sumOfProducts_39 ?_
      obtain ⟨f8, h⟩ := h
      refine g_callV_I (pc := 40) hX hR f8 cf7 rfl lk_Ca_163 mf_Mx_placeOf (c_Mx_placeOf _ _ _ _ _ h) rfl rfl rfl ⟨by decide, by decide⟩ (by simp [cr_cat, ca_i, ca_l, ca_d]) d_Ca_sumOfProducts_40 (fun r7 A6 h => ?_)
      refine g_callV_D (pc := 43) hX hR f8 cf7 rfl lk_Ca_170 mf_Mx_get (c_Mx_get _ _ _ _ h) rfl rfl rfl ⟨by decide, by decide⟩ (cat_sum _ (Nat.le_of_ble_eq_true rfl)) d_Ca_sumOfProducts_43 (fun r10 A9 h => ?_)
      obtain ⟨f11, h⟩ := h
      refine g_dmul (pc := 46) hX d_Ca_sumOfProducts_46 f11 ?_
      obtain ⟨f14, h⟩ := h
      refine g_callV_D (pc := 47) hX hR f14 cf6 rfl lk_Ca_140 mf_Ca_result (c_Ca_result _ _ _ _ h) rfl rfl rfl ⟨by decide, by decide⟩ (cat_sum _ (Nat.le_of_ble_eq_true rfl)) d_Ca_sumOfProducts_47 (fun r13 A12 h => ?_)
      obtain ⟨f15, h⟩ := h
      refine g_dadd (pc := 50) hX d_Ca_sumOfProducts_50 f15 ?_
      refine g_callV_D (pc := 51) hX hR f14 cf6 rfl lk_Ca_140 mf_Ca_result (c_Ca_result _ _ _ _ h) rfl rfl rfl ⟨by decide, by decide⟩ (cat_sum _ (Nat.le_of_ble_eq_true rfl)) d_Ca_sumOfProducts_51 (fun r17 A16 h => ?_)
      refine g_dstore (pc := 54) (lv0 := [(4, .int (x4)), (0, cr E x0), (1, cr E x1), (2, cr E x2), (3, .int (x3)), (7, .int (x7))]) hX d_Ca_sumOfProducts_54 (by rw [hN]; decide) (g_st2b (ks := [4, 0, 1, 2, 3, 6]) rfl rfl rfl rfl rfl) ?_
      refine g_iinc (pc := 56) (v := (x7 + 1)) (lv0 := [(5, .double (r17)), (4, .int (x4)), (0, cr E x0), (1, cr E x1), (2, cr E x2), (3, .int (x3))]) hX d_Ca_sumOfProducts_56 6 rfl rfl (by rw [hN]; decide) (g_st1 (ks := [0, 1, 2, 3, 4, 5]) rfl rfl) ?_
      refine g_goto (pc := 59) (tgt := 6) hX d_Ca_sumOfProducts_59 (by decide) ?_
      refine g_sub [3, 4, 5, 6, 2, 1, 0] rfl ?_
      exact ih _ _ _ _ _ _ _ _ h
set_option maxRecDepth 100000 in
set_option maxHeartbeats 4000000 in
theorem c_Ca_sumOfProducts (o : Nat) (p1 : Nat) (p2 : Nat) (p3 : Int32) (p4 : Int32) (A : Mem) (K : UInt64 → Mem → Prop) (h : wp_Ca_sumOfProducts o p1 p2 p3 p4 A K) : CtD y_Ca_sumOfProducts prog_3_method_28_code 8 1 24 (fun E => [cr E o, cr E p1, cr E p2, .int (p3), .int (p4)]) A K := by
  refine ctD_of "BasicMachine$Calculator" (by decide) rfl (fun E => [(0, cr E o), (1, cr E p1), (2, cr E p2), (3, .int (p3)), (4, .int (p4))]) (fun E => by simp [lg_sl, cr_cat, ca_i, ca_l, ca_d]) (fun E => by simp [lv_args, cr_cat, ca_i, ca_l, ca_d]) (fun X E hX hR hN hQ => ?_)
  unfold wp_Ca_sumOfProducts at h
  refine g_dconst0 (pc := 0) hX d_Ca_sumOfProducts_0 ?_
  refine g_dstore (pc := 1) (lv0 := [(4, .int (p4)), (0, cr E o), (1, cr E p1), (2, cr E p2), (3, .int (p3))]) hX d_Ca_sumOfProducts_1 (by rw [hN]; decide) (g_st2b (ks := [4, 0, 1, 2, 3]) rfl rfl rfl rfl rfl) ?_
  refine g_iconst (pc := 3) (v := 1) hX d_Ca_sumOfProducts_3 (by decide) ?_
  refine g_istore (pc := 4) (lv0 := [(5, .double (FP.dconst0)), (4, .int (p4)), (0, cr E o), (1, cr E p1), (2, cr E p2), (3, .int (p3))]) hX d_Ca_sumOfProducts_4 (by rw [hN]; decide) (g_st1 (ks := [0, 1, 2, 3, 4, 5]) rfl rfl) ?_
  refine g_sub [3, 4, 5, 6, 2, 1, 0] rfl ?_
  obtain ⟨n9, h⟩ := h
  exact k_Ca_sumOfProducts_c6 hX hR hN hQ n9 _ _ _ _ _ _ _ _ h
def wp_Pa_leaveBlanksOut_c7 (K : Mem → Prop) : Nat → Nat → Nat → Int32 → Int32 → Mem → Prop
  | 0, _, _, _, _, _ => False
  | n + 1, x0, x1, x2, x3, A => ((x2 ≤ x3 → K A) ∧ (¬ x2 ≤ x3 → kd x1 = 52 ∧ (((Int32.ofNat (al x1)) ≤ x3 → K A) ∧ (¬ (Int32.ofNat (al x1)) ≤ x3 → vp_in x3 (al x1) ∧ (((gI A x1 (Int32.toNatClampNeg x3)) = 32 → wp_Pa_leaveBlanksOut_c7 K n x0 x1 x2 (x3 + 1) A) ∧ (¬ (gI A x1 (Int32.toNatClampNeg x3)) = 32 → kd x0 = 2 ∧ kd (gR A x0 2) = 52 ∧ (((Int32.ofNat (al (gR A x0 2))) ≤ (gI A x0 3) → wp_Pa_leaveBlanksOut_c7 K n x0 x1 x2 (x3 + 1) A) ∧ (¬ (Int32.ofNat (al (gR A x0 2))) ≤ (gI A x0 3) → vp_in (gI A x0 3) (al (gR A x0 2)) ∧ ∀ A7 : Mem, A7 = (sI (sI A (gR A x0 2) (Int32.toNatClampNeg (gI A x0 3)) (vp_nar .char (gI A x1 (Int32.toNatClampNeg x3)))) x0 3 ((gI (sI A (gR A x0 2) (Int32.toNatClampNeg (gI A x0 3)) (vp_nar .char (gI A x1 (Int32.toNatClampNeg x3)))) x0 3) + 1)) → wp_Pa_leaveBlanksOut_c7 K n x0 x1 x2 (x3 + 1) A7))))))))
def wp_Pa_leaveBlanksOut (o : Nat) (p1 : Nat) (p2 : Int32) (A : Mem) (K : Mem → Prop) : Prop := kd o = 2 ∧ (∃ n9 : Nat, wp_Pa_leaveBlanksOut_c7 K n9 o p1 p2 0 (sI A o 3 0))
set_option maxRecDepth 100000 in
set_option maxHeartbeats 4000000 in
theorem k_Pa_leaveBlanksOut_c7 {X : CXT} {E : EVT} {K : Mem → Prop} (hX : Gd X E "BasicMachine$Parser" prog_10_method_3_code) (hR : Rm X 0 0) (hN : xnL X = 4) (hQ : QV X E K) : ∀ (n : Nat) (x0 : Nat) (x1 : Nat) (x2 : Int32) (x3 : Int32) (A : Mem), wp_Pa_leaveBlanksOut_c7 K n x0 x1 x2 x3 A → G X E A 7 [(0, cr E x0), (1, cr E x1), (2, .int (x2)), (3, .int (x3))] [] := by
  intro n
  induction n with
  | zero => intro x0 x1 x2 x3 A h; exact h.elim
  | succ n ih =>
    intro x0 x1 x2 x3 A h
    rw [wp_Pa_leaveBlanksOut_c7] at h
    refine g_iload_n (pc := 7) hX d_Pa_leaveBlanksOut_7 rfl 3 rfl ?_
    refine g_iload_n (pc := 8) hX d_Pa_leaveBlanksOut_8 rfl 2 rfl ?_
    refine g_icmp_ge (pc := 9) (tgt := 66) hX d_Pa_leaveBlanksOut_9 (by decide) (fun q => ?_) (fun q => ?_)
    · have h := h.1 q
      exact g_vret hX hQ h d_Pa_leaveBlanksOut_66
    · have h := h.2 q
      refine g_iload_n (pc := 12) hX d_Pa_leaveBlanksOut_12 rfl 3 rfl ?_
      refine g_aload_n (pc := 13) hX d_Pa_leaveBlanksOut_13 rfl 1 rfl ?_
      obtain ⟨f2, h⟩ := h
      refine g_alen (pc := 14) hX f2 (by decide) rfl d_Pa_leaveBlanksOut_14 ?_
      refine g_icmp_ge (pc := 15) (tgt := 66) hX d_Pa_leaveBlanksOut_15 (by decide) (fun q => ?_) (fun q => ?_)
      · have h := h.1 q
        exact g_vret hX hQ h d_Pa_leaveBlanksOut_66
      · have h := h.2 q
        refine g_aload_n (pc := 18) hX d_Pa_leaveBlanksOut_18 rfl 1 rfl ?_
        refine g_iload_n (pc := 19) hX d_Pa_leaveBlanksOut_19 rfl 3 rfl ?_
        obtain ⟨f3, h⟩ := h
        refine g_caload (pc := 20) hX f2 f3 d_Pa_leaveBlanksOut_20 ?_
        refine g_bipush (pc := 21) (v := 32) hX d_Pa_leaveBlanksOut_21 (by decide) ?_
        refine g_icmp_eq (pc := 23) (tgt := 60) hX d_Pa_leaveBlanksOut_23 (by decide) (fun q => ?_) (fun q => ?_)
        · have h := h.1 q
          refine g_iinc (pc := 60) (v := (x3 + 1)) (lv0 := [(2, .int (x2)), (0, cr E x0), (1, cr E x1)]) hX d_Pa_leaveBlanksOut_60 3 rfl rfl (by rw [hN]; decide) (g_st1b (ks := [2, 0, 1]) rfl rfl rfl rfl) ?_
          refine g_goto (pc := 63) (tgt := 7) hX d_Pa_leaveBlanksOut_63 (by decide) ?_
          refine g_sub [2, 3, 1, 0] rfl ?_
          exact ih _ _ _ _ _ h
        · have h := h.2 q
          refine g_aload_n (pc := 26) hX d_Pa_leaveBlanksOut_26 rfl 0 rfl ?_
          obtain ⟨f4, h⟩ := h
          refine g_getI (pc := 27) hX fl_Pa_46 rfl f4 d_Pa_leaveBlanksOut_27 ?_
          refine g_aload_n (pc := 30) hX d_Pa_leaveBlanksOut_30 rfl 0 rfl ?_
          refine g_getR (pc := 31) hX fl_Pa_18 rfl f4 d_Pa_leaveBlanksOut_31 ?_
          obtain ⟨f5, h⟩ := h
          refine g_alen (pc := 34) hX f5 (by decide) rfl d_Pa_leaveBlanksOut_34 ?_
          refine g_icmp_ge (pc := 35) (tgt := 60) hX d_Pa_leaveBlanksOut_35 (by decide) (fun q => ?_) (fun q => ?_)
          · have h := h.1 q
            refine g_iinc (pc := 60) (v := (x3 + 1)) (lv0 := [(2, .int (x2)), (0, cr E x0), (1, cr E x1)]) hX d_Pa_leaveBlanksOut_60 3 rfl rfl (by rw [hN]; decide) (g_st1b (ks := [2, 0, 1]) rfl rfl rfl rfl) ?_
            refine g_goto (pc := 63) (tgt := 7) hX d_Pa_leaveBlanksOut_63 (by decide) ?_
            refine g_sub [2, 3, 1, 0] rfl ?_
            exact ih _ _ _ _ _ h
          · have h := h.2 q
            refine g_aload_n (pc := 38) hX d_Pa_leaveBlanksOut_38 rfl 0 rfl ?_
            refine g_getR (pc := 39) hX fl_Pa_18 rfl f4 d_Pa_leaveBlanksOut_39 ?_
            refine g_aload_n (pc := 42) hX d_Pa_leaveBlanksOut_42 rfl 0 rfl ?_
            refine g_getI (pc := 43) hX fl_Pa_46 rfl f4 d_Pa_leaveBlanksOut_43 ?_
            refine g_aload_n (pc := 46) hX d_Pa_leaveBlanksOut_46 rfl 1 rfl ?_
            refine g_iload_n (pc := 47) hX d_Pa_leaveBlanksOut_47 rfl 3 rfl ?_
            refine g_caload (pc := 48) hX f2 f3 d_Pa_leaveBlanksOut_48 ?_
            obtain ⟨f6, h⟩ := h
            refine g_castore (pc := 49) hX f5 f6 d_Pa_leaveBlanksOut_49 ?_
            refine g_aload_n (pc := 50) hX d_Pa_leaveBlanksOut_50 rfl 0 rfl ?_
            refine g_dup (pc := 51) hX d_Pa_leaveBlanksOut_51 (cr_cat _ _) ?_
            refine g_getI (pc := 52) hX fl_Pa_46 rfl f4 d_Pa_leaveBlanksOut_52 ?_
            refine g_iconst (pc := 55) (v := 1) hX d_Pa_leaveBlanksOut_55 (by decide) ?_
            refine g_iadd (pc := 56) hX d_Pa_leaveBlanksOut_56 ?_
            refine g_putI (pc := 57) hX fl_Pa_46 rfl rfl rfl f4 d_Pa_leaveBlanksOut_57 ?_
            refine g_nm (fun A7 eA7 => ?_)
            have h := h A7 eA7
            refine g_iinc (pc := 60) (v := (x3 + 1)) (lv0 := [(2, .int (x2)), (0, cr E x0), (1, cr E x1)]) hX d_Pa_leaveBlanksOut_60 3 rfl rfl (by rw [hN]; decide) (g_st1b (ks := [2, 0, 1]) rfl rfl rfl rfl) ?_
            refine g_goto (pc := 63) (tgt := 7) hX d_Pa_leaveBlanksOut_63 (by decide) ?_
            refine g_sub [2, 3, 1, 0] rfl ?_
            exact ih _ _ _ _ _ h
set_option maxRecDepth 100000 in
set_option maxHeartbeats 4000000 in
theorem c_Pa_leaveBlanksOut (o : Nat) (p1 : Nat) (p2 : Int32) (A : Mem) (K : Mem → Prop) (h : wp_Pa_leaveBlanksOut o p1 p2 A K) : CtV y_Pa_leaveBlanksOut prog_10_method_3_code 4 0 0 (fun E => [cr E o, cr E p1, .int (p2)]) A K := by
  refine ctV_of "BasicMachine$Parser" (by decide) rfl (fun E => [(0, cr E o), (1, cr E p1), (2, .int (p2))]) (fun E => by simp [lg_sl, cr_cat, ca_i, ca_l, ca_d]) (fun E => by simp [lv_args, cr_cat, ca_i, ca_l, ca_d]) (fun X E hX hR hN hQ => ?_)
  unfold wp_Pa_leaveBlanksOut at h
  refine g_aload_n (pc := 0) hX d_Pa_leaveBlanksOut_0 rfl 0 rfl ?_
  refine g_iconst (pc := 1) (v := 0) hX d_Pa_leaveBlanksOut_1 (by decide) ?_
  obtain ⟨f1, h⟩ := h
  refine g_putI (pc := 2) hX fl_Pa_46 rfl rfl rfl f1 d_Pa_leaveBlanksOut_2 ?_
  refine g_iconst (pc := 5) (v := 0) hX d_Pa_leaveBlanksOut_5 (by decide) ?_
  refine g_istore_n (pc := 6) (lv0 := [(2, .int (p2)), (0, cr E o), (1, cr E p1)]) hX d_Pa_leaveBlanksOut_6 rfl (by rw [hN]; decide) (g_st1b (ks := [2, 0, 1]) rfl rfl rfl rfl) ?_
  refine g_sub [2, 3, 1, 0] rfl ?_
  obtain ⟨n9, h⟩ := h
  exact k_Pa_leaveBlanksOut_c7 hX hR hN hQ n9 _ _ _ _ _ h
def wp_Pa_next (o : Nat) (A : Mem) (K : Int32 → Mem → Prop) : Prop := kd o = 2 ∧ (((gI A o 3) ≤ (gI A o 1) → K (-1) A) ∧ (¬ (gI A o 3) ≤ (gI A o 1) → kd (gR A o 2) = 52 ∧ vp_in (gI A o 1) (al (gR A o 2)) ∧ K (gI A (gR A o 2) (Int32.toNatClampNeg (gI A o 1))) A))
set_option maxRecDepth 100000 in
set_option maxHeartbeats 4000000 in
theorem c_Pa_next (o : Nat) (A : Mem) (K : Int32 → Mem → Prop) (h : wp_Pa_next o A K) : CtI y_Pa_next prog_10_method_4_code 1 0 0 (fun E => [cr E o]) A K := by
  refine ctI_of "BasicMachine$Parser" (by decide) rfl (fun E => [(0, cr E o)]) (fun E => by simp [lg_sl, cr_cat, ca_i, ca_l, ca_d]) (fun E => by simp [lv_args, cr_cat, ca_i, ca_l, ca_d]) (fun X E hX hR hN hQ => ?_)
  unfold wp_Pa_next at h
  refine g_aload_n (pc := 0) hX d_Pa_next_0 rfl 0 rfl ?_
  obtain ⟨f1, h⟩ := h
  refine g_getI (pc := 1) hX fl_Pa_26 rfl f1 d_Pa_next_1 ?_
  refine g_aload_n (pc := 4) hX d_Pa_next_4 rfl 0 rfl ?_
  refine g_getI (pc := 5) hX fl_Pa_46 rfl f1 d_Pa_next_5 ?_
  refine g_icmp_ge (pc := 8) (tgt := 23) hX d_Pa_next_8 (by decide) (fun q => ?_) (fun q => ?_)
  · have h := h.1 q
    refine g_iconst (pc := 23) (v := (-1)) hX d_Pa_next_23 (by decide) ?_
    exact g_iret hX hQ h d_Pa_next_24
  · have h := h.2 q
    refine g_aload_n (pc := 11) hX d_Pa_next_11 rfl 0 rfl ?_
    refine g_getR (pc := 12) hX fl_Pa_18 rfl f1 d_Pa_next_12 ?_
    refine g_aload_n (pc := 15) hX d_Pa_next_15 rfl 0 rfl ?_
    refine g_getI (pc := 16) hX fl_Pa_26 rfl f1 d_Pa_next_16 ?_
    obtain ⟨f2, h⟩ := h
    obtain ⟨f3, h⟩ := h
    refine g_caload (pc := 19) hX f2 f3 d_Pa_next_19 ?_
    refine g_goto (pc := 20) (tgt := 24) hX d_Pa_next_20 (by decide) ?_
    exact g_iret hX hQ h d_Pa_next_24
def wp_Pa_behind (o : Nat) (p1 : Int32) (A : Mem) (K : Int32 → Mem → Prop) : Prop := kd o = 2 ∧ (((gI A o 3) ≤ ((gI A o 1) + p1) → K (-1) A) ∧ (¬ (gI A o 3) ≤ ((gI A o 1) + p1) → kd (gR A o 2) = 52 ∧ vp_in ((gI A o 1) + p1) (al (gR A o 2)) ∧ K (gI A (gR A o 2) (Int32.toNatClampNeg ((gI A o 1) + p1))) A))
set_option maxRecDepth 100000 in
set_option maxHeartbeats 4000000 in
theorem c_Pa_behind (o : Nat) (p1 : Int32) (A : Mem) (K : Int32 → Mem → Prop) (h : wp_Pa_behind o p1 A K) : CtI y_Pa_behind prog_10_method_5_code 2 0 0 (fun E => [cr E o, .int (p1)]) A K := by
  refine ctI_of "BasicMachine$Parser" (by decide) rfl (fun E => [(0, cr E o), (1, .int (p1))]) (fun E => by simp [lg_sl, cr_cat, ca_i, ca_l, ca_d]) (fun E => by simp [lv_args, cr_cat, ca_i, ca_l, ca_d]) (fun X E hX hR hN hQ => ?_)
  unfold wp_Pa_behind at h
  refine g_aload_n (pc := 0) hX d_Pa_behind_0 rfl 0 rfl ?_
  obtain ⟨f1, h⟩ := h
  refine g_getI (pc := 1) hX fl_Pa_26 rfl f1 d_Pa_behind_1 ?_
  refine g_iload_n (pc := 4) hX d_Pa_behind_4 rfl 1 rfl ?_
  refine g_iadd (pc := 5) hX d_Pa_behind_5 ?_
  refine g_aload_n (pc := 6) hX d_Pa_behind_6 rfl 0 rfl ?_
  refine g_getI (pc := 7) hX fl_Pa_46 rfl f1 d_Pa_behind_7 ?_
  refine g_icmp_ge (pc := 10) (tgt := 27) hX d_Pa_behind_10 (by decide) (fun q => ?_) (fun q => ?_)
  · have h := h.1 q
    refine g_iconst (pc := 27) (v := (-1)) hX d_Pa_behind_27 (by decide) ?_
    exact g_iret hX hQ h d_Pa_behind_28
  · have h := h.2 q
    refine g_aload_n (pc := 13) hX d_Pa_behind_13 rfl 0 rfl ?_
    refine g_getR (pc := 14) hX fl_Pa_18 rfl f1 d_Pa_behind_14 ?_
    refine g_aload_n (pc := 17) hX d_Pa_behind_17 rfl 0 rfl ?_
    refine g_getI (pc := 18) hX fl_Pa_26 rfl f1 d_Pa_behind_18 ?_
    refine g_iload_n (pc := 21) hX d_Pa_behind_21 rfl 1 rfl ?_
    refine g_iadd (pc := 22) hX d_Pa_behind_22 ?_
    obtain ⟨f2, h⟩ := h
    obtain ⟨f3, h⟩ := h
    refine g_caload (pc := 23) hX f2 f3 d_Pa_behind_23 ?_
    refine g_goto (pc := 24) (tgt := 28) hX d_Pa_behind_24 (by decide) ?_
    exact g_iret hX hQ h d_Pa_behind_28
def wp_Pa_skip (o : Nat) (p1 : Int32) (A : Mem) (K : Bool → Mem → Prop) : Prop := kd o = 2 ∧ (((gI A o 3) ≤ (gI A o 1) → K false A) ∧ (¬ (gI A o 3) ≤ (gI A o 1) → kd (gR A o 2) = 52 ∧ vp_in (gI A o 1) (al (gR A o 2)) ∧ (((gI A (gR A o 2) (Int32.toNatClampNeg (gI A o 1))) = p1 → K true (sI A o 1 ((gI A o 1) + 1))) ∧ (¬ (gI A (gR A o 2) (Int32.toNatClampNeg (gI A o 1))) = p1 → K false A))))
set_option maxRecDepth 100000 in
set_option maxHeartbeats 4000000 in
theorem c_Pa_skip (o : Nat) (p1 : Int32) (A : Mem) (K : Bool → Mem → Prop) (h : wp_Pa_skip o p1 A K) : CtZ y_Pa_skip prog_10_method_6_code 2 0 0 (fun E => [cr E o, .int (p1)]) A K := by
  refine ctZ_of "BasicMachine$Parser" (by decide) rfl (fun E => [(0, cr E o), (1, .int (p1))]) (fun E => by simp [lg_sl, cr_cat, ca_i, ca_l, ca_d]) (fun E => by simp [lv_args, cr_cat, ca_i, ca_l, ca_d]) (fun X E hX hR hN hQ => ?_)
  unfold wp_Pa_skip at h
  refine g_aload_n (pc := 0) hX d_Pa_skip_0 rfl 0 rfl ?_
  obtain ⟨f1, h⟩ := h
  refine g_getI (pc := 1) hX fl_Pa_26 rfl f1 d_Pa_skip_1 ?_
  refine g_aload_n (pc := 4) hX d_Pa_skip_4 rfl 0 rfl ?_
  refine g_getI (pc := 5) hX fl_Pa_46 rfl f1 d_Pa_skip_5 ?_
  refine g_icmp_ge (pc := 8) (tgt := 24) hX d_Pa_skip_8 (by decide) (fun q => ?_) (fun q => ?_)
  · have h := h.1 q
    refine g_iconst (pc := 24) (v := 0) hX d_Pa_skip_24 (by decide) ?_
    exact g_zret hX hQ false rfl h d_Pa_skip_25
  · have h := h.2 q
    refine g_aload_n (pc := 11) hX d_Pa_skip_11 rfl 0 rfl ?_
    refine g_getR (pc := 12) hX fl_Pa_18 rfl f1 d_Pa_skip_12 ?_
    refine g_aload_n (pc := 15) hX d_Pa_skip_15 rfl 0 rfl ?_
    refine g_getI (pc := 16) hX fl_Pa_26 rfl f1 d_Pa_skip_16 ?_
    obtain ⟨f2, h⟩ := h
    obtain ⟨f3, h⟩ := h
    refine g_caload (pc := 19) hX f2 f3 d_Pa_skip_19 ?_
    refine g_iload_n (pc := 20) hX d_Pa_skip_20 rfl 1 rfl ?_
    refine g_icmp_eq (pc := 21) (tgt := 26) hX d_Pa_skip_21 (by decide) (fun q => ?_) (fun q => ?_)
    · have h := h.1 q
      refine g_aload_n (pc := 26) hX d_Pa_skip_26 rfl 0 rfl ?_
      refine g_dup (pc := 27) hX d_Pa_skip_27 (cr_cat _ _) ?_
      refine g_getI (pc := 28) hX fl_Pa_26 rfl f1 d_Pa_skip_28 ?_
      refine g_iconst (pc := 31) (v := 1) hX d_Pa_skip_31 (by decide) ?_
      refine g_iadd (pc := 32) hX d_Pa_skip_32 ?_
      refine g_putI (pc := 33) hX fl_Pa_26 rfl rfl rfl f1 d_Pa_skip_33 ?_
      refine g_iconst (pc := 36) (v := 1) hX d_Pa_skip_36 (by decide) ?_
      exact g_zret hX hQ true rfl h d_Pa_skip_37
    · have h := h.2 q
      refine g_iconst (pc := 24) (v := 0) hX d_Pa_skip_24 (by decide) ?_
      exact g_zret hX hQ false rfl h d_Pa_skip_25
def wp_Pa_anything (o : Nat) (A : Mem) (K : Bool → Mem → Prop) : Prop := kd o = 2 ∧ K true (sI A o 1 (gI A o 3))
set_option maxRecDepth 100000 in
set_option maxHeartbeats 4000000 in
theorem c_Pa_anything (o : Nat) (A : Mem) (K : Bool → Mem → Prop) (h : wp_Pa_anything o A K) : CtZ y_Pa_anything prog_10_method_11_code 1 0 0 (fun E => [cr E o]) A K := by
  refine ctZ_of "BasicMachine$Parser" (by decide) rfl (fun E => [(0, cr E o)]) (fun E => by simp [lg_sl, cr_cat, ca_i, ca_l, ca_d]) (fun E => by simp [lv_args, cr_cat, ca_i, ca_l, ca_d]) (fun X E hX hR hN hQ => ?_)
  unfold wp_Pa_anything at h
  refine g_aload_n (pc := 0) hX d_Pa_anything_0 rfl 0 rfl ?_
  refine g_aload_n (pc := 1) hX d_Pa_anything_1 rfl 0 rfl ?_
  obtain ⟨f1, h⟩ := h
  refine g_getI (pc := 2) hX fl_Pa_46 rfl f1 d_Pa_anything_2 ?_
  refine g_putI (pc := 5) hX fl_Pa_26 rfl rfl rfl f1 d_Pa_anything_5 ?_
  refine g_iconst (pc := 8) (v := 1) hX d_Pa_anything_8 (by decide) ?_
  exact g_zret hX hQ true rfl h d_Pa_anything_9
def wp_Pa_extent (o : Nat) (A : Mem) (K : Bool → Mem → Prop) : Prop := kd o = 2 ∧ wp_Pa_next o A (fun (r2 : Int32) (A1 : Mem) => (((r2 - 48) < 1 → K false A1) ∧ (¬ (r2 - 48) < 1 → (((r2 - 48) ≤ 6 → kd (gR A1 o 0) = 3 ∧ wp_Li_addNumber (gR A1 o 0) (r2 - 48) A1 (fun (A4 : Mem) => K true (sI A4 o 1 ((gI A4 o 1) + 1)))) ∧ (¬ (r2 - 48) ≤ 6 → K false A1)))))
set_option maxRecDepth 100000 in
set_option maxHeartbeats 4000000 in
theorem c_Pa_extent (o : Nat) (A : Mem) (K : Bool → Mem → Prop) (h : wp_Pa_extent o A K) : CtZ y_Pa_extent prog_10_method_18_code 2 1 21 (fun E => [cr E o]) A K := by
  refine ctZ_of "BasicMachine$Parser" (by decide) rfl (fun E => [(0, cr E o)]) (fun E => by simp [lg_sl, cr_cat, ca_i, ca_l, ca_d]) (fun E => by simp [lv_args, cr_cat, ca_i, ca_l, ca_d]) (fun X E hX hR hN hQ => ?_)
  unfold wp_Pa_extent at h
  refine g_aload_n (pc := 0) hX d_Pa_extent_0 rfl 0 rfl ?_
  obtain ⟨f3, h⟩ := h
  refine g_callV_I (pc := 1) hX hR f3 cf2 rfl lk_Pa_157 mf_Pa_next (c_Pa_next _ _ _ h) rfl rfl rfl ⟨by decide, by decide⟩ (cat_sum _ (Nat.le_of_ble_eq_true rfl)) d_Pa_extent_1 (fun r2 A1 h => ?_)
  refine g_bipush (pc := 4) (v := 48) hX d_Pa_extent_4 (by decide) ?_
  refine g_isub (pc := 6) hX d_Pa_extent_6 ?_
  refine g_istore_n (pc := 7) (lv0 := [(0, cr E o)]) hX d_Pa_extent_7 rfl (by rw [hN]; decide) (g_st1b (ks := [0]) rfl (cr_cat _ _) rfl rfl) ?_
  refine g_iload_n (pc := 8) hX d_Pa_extent_8 rfl 0 rfl ?_
  refine g_iconst (pc := 9) (v := 1) hX d_Pa_extent_9 (by decide) ?_
  refine g_icmp_lt (pc := 10) (tgt := 19) hX d_Pa_extent_10 (by decide) (fun q => ?_) (fun q => ?_)
  · have h := h.1 q
    refine g_iconst (pc := 19) (v := 0) hX d_Pa_extent_19 (by decide) ?_
    exact g_zret hX hQ false rfl h d_Pa_extent_20
  · have h := h.2 q
    refine g_iload_n (pc := 13) hX d_Pa_extent_13 rfl 0 rfl ?_
    refine g_bipush (pc := 14) (v := 6) hX d_Pa_extent_14 (by decide) ?_
    refine g_icmp_le (pc := 16) (tgt := 21) hX d_Pa_extent_16 (by decide) (fun q => ?_) (fun q => ?_)
    · have h := h.1 q
      refine g_aload_n (pc := 21) hX d_Pa_extent_21 rfl 1 rfl ?_
      refine g_getR (pc := 22) hX fl_Pa_12 rfl f3 d_Pa_extent_22 ?_
      refine g_iload_n (pc := 25) hX d_Pa_extent_25 rfl 0 rfl ?_
      obtain ⟨f5, h⟩ := h
      refine g_callV_V (pc := 26) hX hR f5 cf3 rfl lk_Pa_164 mf_Li_addNumber (c_Li_addNumber _ _ _ _ h) rfl rfl rfl ⟨by decide, by decide⟩ (cat_sum _ (Nat.le_of_ble_eq_true rfl)) d_Pa_extent_26 (fun A4 h => ?_)
      refine g_aload_n (pc := 29) hX d_Pa_extent_29 rfl 1 rfl ?_
      refine g_dup (pc := 30) hX d_Pa_extent_30 (cr_cat _ _) ?_
      refine g_getI (pc := 31) hX fl_Pa_26 rfl f3 d_Pa_extent_31 ?_
      refine g_iconst (pc := 34) (v := 1) hX d_Pa_extent_34 (by decide) ?_
      refine g_iadd (pc := 35) hX d_Pa_extent_35 ?_
      refine g_putI (pc := 36) hX fl_Pa_26 rfl rfl rfl f3 d_Pa_extent_36 ?_
      refine g_iconst (pc := 39) (v := 1) hX d_Pa_extent_39 (by decide) ?_
      exact g_zret hX hQ true rfl h d_Pa_extent_40
    · have h := h.2 q
      refine g_iconst (pc := 19) (v := 0) hX d_Pa_extent_19 (by decide) ?_
      exact g_zret hX hQ false rfl h d_Pa_extent_20
def wp_Pa_relation_c96 (K : Bool → Mem → Prop) (x0 : Nat) (x1 : Int32) (A : Mem) : Prop := ((¬ x1 = 60 → K true A) ∧ (x1 = 60 → kd x0 = 2 ∧ wp_Pa_skip x0 62 A (fun (r11 : Bool) (A10 : Mem) => ((r11 = false → K true A10) ∧ (r11 = true → kd (gR A10 x0 0) = 3 ∧ K true (sI A10 (gR A10 x0 0) 6 ((gI A10 (gR A10 x0 0) 6) + 4)))))))
def wp_Pa_relation_c40 (K : Bool → Mem → Prop) (x0 : Nat) (x1 : Int32) (s0 : Int32) (s1 : Nat) (A : Mem) : Prop := kd s1 = 3 ∧ kd x0 = 2 ∧ kd (gR (sI A s1 6 s0) x0 0) = 3 ∧ ((¬ (gI (sI A s1 6 s0) (gR (sI A s1 6 s0) x0 0) 6) = 0 → ((x1 = 61 → wp_Pa_relation_c96 K x0 x1 (sI (sI A s1 6 s0) x0 1 ((gI (sI A s1 6 s0) x0 1) + 1))) ∧ (¬ x1 = 61 → wp_Pa_skip x0 61 (sI (sI A s1 6 s0) x0 1 ((gI (sI A s1 6 s0) x0 1) + 1)) (fun (r8 : Bool) (A7 : Mem) => ((r8 = false → wp_Pa_relation_c96 K x0 x1 A7) ∧ (r8 = true → kd (gR A7 x0 0) = 3 ∧ K true (sI A7 (gR A7 x0 0) 6 ((gI A7 (gR A7 x0 0) 6) + 2)))))))) ∧ ((gI (sI A s1 6 s0) (gR (sI A s1 6 s0) x0 0) 6) = 0 → K false (sI A s1 6 s0)))
def wp_Pa_relation (o : Nat) (A : Mem) (K : Bool → Mem → Prop) : Prop := kd o = 2 ∧ wp_Pa_next o A (fun (r2 : Int32) (A1 : Mem) => ((¬ r2 = 60 → ((¬ r2 = 61 → ((¬ r2 = 62 → wp_Pa_relation_c40 K o r2 0 (gR A1 o 0) A1) ∧ (r2 = 62 → wp_Pa_relation_c40 K o r2 4 (gR A1 o 0) A1))) ∧ (r2 = 61 → wp_Pa_relation_c40 K o r2 2 (gR A1 o 0) A1))) ∧ (r2 = 60 → wp_Pa_relation_c40 K o r2 1 (gR A1 o 0) A1)))
set_option maxRecDepth 100000 in
set_option maxHeartbeats 4000000 in
theorem k_Pa_relation_c96 {X : CXT} {E : EVT} {K : Bool → Mem → Prop} (hX : Gd X E "BasicMachine$Parser" prog_10_method_23_code) (hR : Rm X 1 21) (hN : xnL X = 2) (hQ : QZ X E K) (x0 : Nat) (x1 : Int32) (A : Mem) (h : wp_Pa_relation_c96 K x0 x1 A) : G X E A 96 [(0, cr E x0), (1, .int (x1))] [] := by
  unfold wp_Pa_relation_c96 at h
  refine g_iload_n (pc := 96) hX d_Pa_relation_96 rfl 1 rfl ?_
  refine g_bipush (pc := 97) (v := 60) hX d_Pa_relation_97 (by decide) ?_
  refine g_icmp_ne (pc := 99) (tgt := 124) hX d_Pa_relation_99 (by decide) (fun q => ?_) (fun q => ?_)
  · have h := h.1 q
    refine g_iconst (pc := 124) (v := 1) hX d_Pa_relation_124 (by decide) ?_
    exact g_zret hX hQ true rfl h d_Pa_relation_125
  · have h := h.2 q
    refine g_aload_n (pc := 102) hX d_Pa_relation_102 rfl 0 rfl ?_
    refine g_bipush (pc := 103) (v := 62) hX d_Pa_relation_103 (by decide) ?_
    obtain ⟨f12, h⟩ := h
    refine g_callV_Z (pc := 105) hX hR f12 cf2 rfl lk_Pa_68 mf_Pa_skip (c_Pa_skip _ _ _ _ h) rfl rfl rfl ⟨by decide, by decide⟩ (cat_sum _ (Nat.le_of_ble_eq_true rfl)) d_Pa_relation_105 (fun r11 A10 h => ?_)
    refine g_ifB_eq (pc := 108) (tgt := 124) hX d_Pa_relation_108 (by decide) (fun q => ?_) (fun q => ?_)
    · have h := h.1 q
      refine g_iconst (pc := 124) (v := 1) hX d_Pa_relation_124 (by decide) ?_
      exact g_zret hX hQ true rfl h d_Pa_relation_125
    · have h := h.2 q
      refine g_aload_n (pc := 111) hX d_Pa_relation_111 rfl 0 rfl ?_
      refine g_getR (pc := 112) hX fl_Pa_12 rfl f12 d_Pa_relation_112 ?_
      refine g_dup (pc := 115) hX d_Pa_relation_115 (cr_cat _ _) ?_
      obtain ⟨f13, h⟩ := h
      refine g_getI (pc := 116) hX fl_Pa_197 rfl f13 d_Pa_relation_116 ?_
      refine g_iconst (pc := 119) (v := 4) hX d_Pa_relation_119 (by decide) ?_
      refine g_iadd (pc := 120) hX d_Pa_relation_120 ?_
      refine g_putI (pc := 121) hX fl_Pa_197 rfl rfl rfl f13 d_Pa_relation_121 ?_
      refine g_iconst (pc := 124) (v := 1) hX d_Pa_relation_124 (by decide) ?_
      exact g_zret hX hQ true rfl h d_Pa_relation_125
set_option maxRecDepth 100000 in
set_option maxHeartbeats 4000000 in
theorem k_Pa_relation_c40 {X : CXT} {E : EVT} {K : Bool → Mem → Prop} (hX : Gd X E "BasicMachine$Parser" prog_10_method_23_code) (hR : Rm X 1 21) (hN : xnL X = 2) (hQ : QZ X E K) (x0 : Nat) (x1 : Int32) (s0 : Int32) (s1 : Nat) (A : Mem) (h : wp_Pa_relation_c40 K x0 x1 s0 s1 A) : G X E A 40 [(0, cr E x0), (1, .int (x1))] [.int (s0), cr E s1] := by
  unfold wp_Pa_relation_c40 at h
  obtain ⟨f4, h⟩ := h
  refine g_putI (pc := 40) hX fl_Pa_197 rfl rfl rfl f4 d_Pa_relation_40 ?_
  refine g_aload_n (pc := 43) hX d_Pa_relation_43 rfl 0 rfl ?_
  obtain ⟨f5, h⟩ := h
  refine g_getR (pc := 44) hX fl_Pa_12 rfl f5 d_Pa_relation_44 ?_
  obtain ⟨f6, h⟩ := h
  refine g_getI (pc := 47) hX fl_Pa_197 rfl f6 d_Pa_relation_47 ?_
  refine g_if_ne (pc := 50) (tgt := 55) hX d_Pa_relation_50 (by decide) (fun q => ?_) (fun q => ?_)
  · have h := h.1 q
    refine g_aload_n (pc := 55) hX d_Pa_relation_55 rfl 0 rfl ?_
    refine g_dup (pc := 56) hX d_Pa_relation_56 (cr_cat _ _) ?_
    refine g_getI (pc := 57) hX fl_Pa_26 rfl f5 d_Pa_relation_57 ?_
    refine g_iconst (pc := 60) (v := 1) hX d_Pa_relation_60 (by decide) ?_
    refine g_iadd (pc := 61) hX d_Pa_relation_61 ?_
    refine g_putI (pc := 62) hX fl_Pa_26 rfl rfl rfl f5 d_Pa_relation_62 ?_
    refine g_iload_n (pc := 65) hX d_Pa_relation_65 rfl 1 rfl ?_
    refine g_bipush (pc := 66) (v := 61) hX d_Pa_relation_66 (by decide) ?_
    refine g_icmp_eq (pc := 68) (tgt := 96) hX d_Pa_relation_68 (by decide) (fun q => ?_) (fun q => ?_)
    · have h := h.1 q
      refine g_sub [0, 1] rfl ?_
      exact k_Pa_relation_c96 hX hR hN hQ _ _ _ h
    · have h := h.2 q
      refine g_aload_n (pc := 71) hX d_Pa_relation_71 rfl 0 rfl ?_
      refine g_bipush (pc := 72) (v := 61) hX d_Pa_relation_72 (by decide) ?_
      refine g_callV_Z (pc := 74) hX hR f5 cf2 rfl lk_Pa_68 mf_Pa_skip (c_Pa_skip _ _ _ _ h) rfl rfl rfl ⟨by decide, by decide⟩ (cat_sum _ (Nat.le_of_ble_eq_true rfl)) d_Pa_relation_74 (fun r8 A7 h => ?_)
      refine g_ifB_eq (pc := 77) (tgt := 96) hX d_Pa_relation_77 (by decide) (fun q => ?_) (fun q => ?_)
      · have h := h.1 q
        refine g_sub [0, 1] rfl ?_
        exact k_Pa_relation_c96 hX hR hN hQ _ _ _ h
      · have h := h.2 q
        refine g_aload_n (pc := 80) hX d_Pa_relation_80 rfl 0 rfl ?_
        refine g_getR (pc := 81) hX fl_Pa_12 rfl f5 d_Pa_relation_81 ?_
        refine g_dup (pc := 84) hX d_Pa_relation_84 (cr_cat _ _) ?_
        obtain ⟨f9, h⟩ := h
        refine g_getI (pc := 85) hX fl_Pa_197 rfl f9 d_Pa_relation_85 ?_
        refine g_iconst (pc := 88) (v := 2) hX d_Pa_relation_88 (by decide) ?_
        refine g_iadd (pc := 89) hX d_Pa_relation_89 ?_
        refine g_putI (pc := 90) hX fl_Pa_197 rfl rfl rfl f9 d_Pa_relation_90 ?_
        refine g_goto (pc := 93) (tgt := 124) hX d_Pa_relation_93 (by decide) ?_
        refine g_iconst (pc := 124) (v := 1) hX d_Pa_relation_124 (by decide) ?_
        exact g_zret hX hQ true rfl h d_Pa_relation_125
  · have h := h.2 q
    refine g_iconst (pc := 53) (v := 0) hX d_Pa_relation_53 (by decide) ?_
    exact g_zret hX hQ false rfl h d_Pa_relation_54
set_option maxRecDepth 100000 in
set_option maxHeartbeats 4000000 in
theorem c_Pa_relation (o : Nat) (A : Mem) (K : Bool → Mem → Prop) (h : wp_Pa_relation o A K) : CtZ y_Pa_relation prog_10_method_23_code 2 1 21 (fun E => [cr E o]) A K := by
  refine ctZ_of "BasicMachine$Parser" (by decide) rfl (fun E => [(0, cr E o)]) (fun E => by simp [lg_sl, cr_cat, ca_i, ca_l, ca_d]) (fun E => by simp [lv_args, cr_cat, ca_i, ca_l, ca_d]) (fun X E hX hR hN hQ => ?_)
  unfold wp_Pa_relation at h
  refine g_aload_n (pc := 0) hX d_Pa_relation_0 rfl 0 rfl ?_
  obtain ⟨f3, h⟩ := h
  refine g_callV_I (pc := 1) hX hR f3 cf2 rfl lk_Pa_157 mf_Pa_next (c_Pa_next _ _ _ h) rfl rfl rfl ⟨by decide, by decide⟩ (cat_sum _ (Nat.le_of_ble_eq_true rfl)) d_Pa_relation_1 (fun r2 A1 h => ?_)
  refine g_istore_n (pc := 4) (lv0 := [(0, cr E o)]) hX d_Pa_relation_4 rfl (by rw [hN]; decide) (g_st1b (ks := [0]) rfl (cr_cat _ _) rfl rfl) ?_
  refine g_aload_n (pc := 5) hX d_Pa_relation_5 rfl 1 rfl ?_
  refine g_getR (pc := 6) hX fl_Pa_12 rfl f3 d_Pa_relation_6 ?_
  refine g_iload_n (pc := 9) hX d_Pa_relation_9 rfl 0 rfl ?_
  refine g_bipush (pc := 10) (v := 60) hX d_Pa_relation_10 (by decide) ?_
  refine g_icmp_ne (pc := 12) (tgt := 19) hX d_Pa_relation_12 (by decide) (fun q => ?_) (fun q => ?_)
  · have h := h.1 q
    refine g_iload_n (pc := 19) hX d_Pa_relation_19 rfl 0 rfl ?_
    refine g_bipush (pc := 20) (v := 61) hX d_Pa_relation_20 (by decide) ?_
    refine g_icmp_ne (pc := 22) (tgt := 29) hX d_Pa_relation_22 (by decide) (fun q => ?_) (fun q => ?_)
    · have h := h.1 q
      refine g_iload_n (pc := 29) hX d_Pa_relation_29 rfl 0 rfl ?_
      refine g_bipush (pc := 30) (v := 62) hX d_Pa_relation_30 (by decide) ?_
      refine g_icmp_ne (pc := 32) (tgt := 39) hX d_Pa_relation_32 (by decide) (fun q => ?_) (fun q => ?_)
      · have h := h.1 q
        refine g_iconst (pc := 39) (v := 0) hX d_Pa_relation_39 (by decide) ?_
        refine g_sub [1, 0] rfl ?_
        exact k_Pa_relation_c40 hX hR hN hQ _ _ _ _ _ h
      · have h := h.2 q
        refine g_iconst (pc := 35) (v := 4) hX d_Pa_relation_35 (by decide) ?_
        refine g_goto (pc := 36) (tgt := 40) hX d_Pa_relation_36 (by decide) ?_
        refine g_sub [1, 0] rfl ?_
        exact k_Pa_relation_c40 hX hR hN hQ _ _ _ _ _ h
    · have h := h.2 q
      refine g_iconst (pc := 25) (v := 2) hX d_Pa_relation_25 (by decide) ?_
      refine g_goto (pc := 26) (tgt := 40) hX d_Pa_relation_26 (by decide) ?_
      refine g_sub [1, 0] rfl ?_
      exact k_Pa_relation_c40 hX hR hN hQ _ _ _ _ _ h
  · have h := h.2 q
    refine g_iconst (pc := 15) (v := 1) hX d_Pa_relation_15 (by decide) ?_
    refine g_goto (pc := 16) (tgt := 40) hX d_Pa_relation_16 (by decide) ?_
    refine g_sub [1, 0] rfl ?_
    exact k_Pa_relation_c40 hX hR hN hQ _ _ _ _ _ h
def wp_Pa_form (o : Nat) (p1 : Nat) (A : Mem) (K : Bool → Mem → Prop) : Prop := kd o = 2 ∧ kd (gR A o 0) = 3 ∧ K true (sR A (gR A o 0) 7 p1)
set_option maxRecDepth 100000 in
set_option maxHeartbeats 4000000 in
theorem c_Pa_form (o : Nat) (p1 : Nat) (A : Mem) (K : Bool → Mem → Prop) (h : wp_Pa_form o p1 A K) : CtZ y_Pa_form prog_10_method_26_code 2 0 0 (fun E => [cr E o, cr E p1]) A K := by
  refine ctZ_of "BasicMachine$Parser" (by decide) rfl (fun E => [(0, cr E o), (1, cr E p1)]) (fun E => by simp [lg_sl, cr_cat, ca_i, ca_l, ca_d]) (fun E => by simp [lv_args, cr_cat, ca_i, ca_l, ca_d]) (fun X E hX hR hN hQ => ?_)
  unfold wp_Pa_form at h
  refine g_aload_n (pc := 0) hX d_Pa_form_0 rfl 0 rfl ?_
  obtain ⟨f1, h⟩ := h
  refine g_getR (pc := 1) hX fl_Pa_12 rfl f1 d_Pa_form_1 ?_
  refine g_aload_n (pc := 4) hX d_Pa_form_4 rfl 1 rfl ?_
  obtain ⟨f2, h⟩ := h
  refine g_putR (pc := 5) hX fl_Pa_239 rfl rfl rfl f2 d_Pa_form_5 ?_
  refine g_iconst (pc := 8) (v := 1) hX d_Pa_form_8 (by decide) ?_
  exact g_zret hX hQ true rfl h d_Pa_form_9
def wp_Pa_operation (o : Nat) (p1 : Int32) (p2 : Int32) (A : Mem) (K : Bool → Mem → Prop) : Prop := kd o = 2 ∧ kd (gR A o 0) = 3 ∧ wp_Li_addOperation (gR A o 0) p1 p2 A (fun (A2 : Mem) => K true A2)
set_option maxRecDepth 100000 in
set_option maxHeartbeats 4000000 in
theorem c_Pa_operation (o : Nat) (p1 : Int32) (p2 : Int32) (A : Mem) (K : Bool → Mem → Prop) (h : wp_Pa_operation o p1 p2 A K) : CtZ y_Pa_operation prog_10_method_34_code 3 1 22 (fun E => [cr E o, .int (p1), .int (p2)]) A K := by
  refine ctZ_of "BasicMachine$Parser" (by decide) rfl (fun E => [(0, cr E o), (1, .int (p1)), (2, .int (p2))]) (fun E => by simp [lg_sl, cr_cat, ca_i, ca_l, ca_d]) (fun E => by simp [lv_args, cr_cat, ca_i, ca_l, ca_d]) (fun X E hX hR hN hQ => ?_)
  unfold wp_Pa_operation at h
  refine g_aload_n (pc := 0) hX d_Pa_operation_0 rfl 0 rfl ?_
  obtain ⟨f1, h⟩ := h
  refine g_getR (pc := 1) hX fl_Pa_12 rfl f1 d_Pa_operation_1 ?_
  refine g_iload_n (pc := 4) hX d_Pa_operation_4 rfl 1 rfl ?_
  refine g_iload_n (pc := 5) hX d_Pa_operation_5 rfl 2 rfl ?_
  obtain ⟨f3, h⟩ := h
  refine g_callV_V (pc := 6) hX hR f3 cf3 rfl lk_Pa_281 mf_Li_addOperation (c_Li_addOperation _ _ _ _ _ h) rfl rfl rfl ⟨by decide, by decide⟩ (cat_sum _ (Nat.le_of_ble_eq_true rfl)) d_Pa_operation_6 (fun A2 h => ?_)
  refine g_iconst (pc := 9) (v := 1) hX d_Pa_operation_9 (by decide) ?_
  exact g_zret hX hQ true rfl h d_Pa_operation_10
def wp_Pa_beginsName (o : Nat) (A : Mem) (K : Bool → Mem → Prop) : Prop := kd o = 2 ∧ wp_Pa_next o A (fun (r2 : Int32) (A1 : Mem) => ((r2 = 65 → wp_Pa_behind o 1 A1 (fun (r5 : Int32) (A4 : Mem) => ((¬ r5 = 66 → K false A4) ∧ (r5 = 66 → K true A4)))) ∧ (r2 = 70 → wp_Pa_behind o 1 A1 (fun (r7 : Int32) (A6 : Mem) => ((¬ r7 = 78 → K false A6) ∧ (r7 = 78 → K true A6)))) ∧ (r2 = 73 → wp_Pa_behind o 1 A1 (fun (r9 : Int32) (A8 : Mem) => ((¬ r9 = 78 → K false A8) ∧ (r9 = 78 → K true A8)))) ∧ (r2 = 83 → wp_Pa_behind o 1 A1 (fun (r11 : Int32) (A10 : Mem) => ((¬ r11 = 71 → K false A10) ∧ (r11 = 71 → kd (gR A10 o 0) = 3 ∧ enk (gR A10 (gR A10 o 0) 2) ∧ ((¬ (gR A10 (gR A10 o 0) 2) = 1004 → K true A10) ∧ ((gR A10 (gR A10 o 0) 2) = 1004 → ((0 < (gI A10 o 4) → K true A10) ∧ (¬ 0 < (gI A10 o 4) → wp_Pa_behind o 2 A10 (fun (r15 : Int32) (A14 : Mem) => ((¬ r15 = 78 → K false A14) ∧ (r15 = 78 → K true A14))))))))))) ∧ (¬ r2 = 65 → ¬ r2 = 70 → ¬ r2 = 73 → ¬ r2 = 83 → K false A1)))
set_option maxRecDepth 100000 in
set_option maxHeartbeats 4000000 in
theorem c_Pa_beginsName (o : Nat) (A : Mem) (K : Bool → Mem → Prop) (h : wp_Pa_beginsName o A K) : CtZ y_Pa_beginsName prog_10_method_35_code 1 1 21 (fun E => [cr E o]) A K := by
  refine ctZ_of "BasicMachine$Parser" (by decide) rfl (fun E => [(0, cr E o)]) (fun E => by simp [lg_sl, cr_cat, ca_i, ca_l, ca_d]) (fun E => by simp [lv_args, cr_cat, ca_i, ca_l, ca_d]) (fun X E hX hR hN hQ => ?_)
  unfold wp_Pa_beginsName at h
  refine g_aload_n (pc := 0) hX d_Pa_beginsName_0 rfl 0 rfl ?_
  obtain ⟨f3, h⟩ := h
  refine g_callV_I (pc := 1) hX hR f3 cf2 rfl lk_Pa_157 mf_Pa_next (c_Pa_next _ _ _ h) rfl rfl rfl ⟨by decide, by decide⟩ (cat_sum _ (Nat.le_of_ble_eq_true rfl)) d_Pa_beginsName_1 (fun r2 A1 h => ?_)
  by_cases q0 : r2 = 65
  · have h := h.1 q0
    refine g_look (pc := 4) (tgt := 48) (off := 44) hX (v := 65) q0 d_Pa_beginsName_4 (by decide +kernel) (by decide +kernel) (by decide) ?_
    refine g_aload_n (pc := 48) hX d_Pa_beginsName_48 rfl 0 rfl ?_
    refine g_iconst (pc := 49) (v := 1) hX d_Pa_beginsName_49 (by decide) ?_
    refine g_callV_I (pc := 50) hX hR f3 cf2 rfl lk_Pa_96 mf_Pa_behind (c_Pa_behind _ _ _ _ h) rfl rfl rfl ⟨by decide, by decide⟩ (cat_sum _ (Nat.le_of_ble_eq_true rfl)) d_Pa_beginsName_50 (fun r5 A4 h => ?_)
    refine g_bipush (pc := 53) (v := 66) hX d_Pa_beginsName_53 (by decide) ?_
    refine g_icmp_ne (pc := 55) (tgt := 62) hX d_Pa_beginsName_55 (by decide) (fun q => ?_) (fun q => ?_)
    · have h := h.1 q
      refine g_iconst (pc := 62) (v := 0) hX d_Pa_beginsName_62 (by decide) ?_
      exact g_zret hX hQ false rfl h d_Pa_beginsName_63
    · have h := h.2 q
      refine g_iconst (pc := 58) (v := 1) hX d_Pa_beginsName_58 (by decide) ?_
      refine g_goto (pc := 59) (tgt := 63) hX d_Pa_beginsName_59 (by decide) ?_
      exact g_zret hX hQ true rfl h d_Pa_beginsName_63
  by_cases q1 : r2 = 70
  · have h := h.2.1 q1
    refine g_look (pc := 4) (tgt := 80) (off := 76) hX (v := 70) q1 d_Pa_beginsName_4 (by decide +kernel) (by decide +kernel) (by decide) ?_
    refine g_aload_n (pc := 80) hX d_Pa_beginsName_80 rfl 0 rfl ?_
    refine g_iconst (pc := 81) (v := 1) hX d_Pa_beginsName_81 (by decide) ?_
    refine g_callV_I (pc := 82) hX hR f3 cf2 rfl lk_Pa_96 mf_Pa_behind (c_Pa_behind _ _ _ _ h) rfl rfl rfl ⟨by decide, by decide⟩ (cat_sum _ (Nat.le_of_ble_eq_true rfl)) d_Pa_beginsName_82 (fun r7 A6 h => ?_)
    refine g_bipush (pc := 85) (v := 78) hX d_Pa_beginsName_85 (by decide) ?_
    refine g_icmp_ne (pc := 87) (tgt := 94) hX d_Pa_beginsName_87 (by decide) (fun q => ?_) (fun q => ?_)
    · have h := h.1 q
      refine g_iconst (pc := 94) (v := 0) hX d_Pa_beginsName_94 (by decide) ?_
      exact g_zret hX hQ false rfl h d_Pa_beginsName_95
    · have h := h.2 q
      refine g_iconst (pc := 90) (v := 1) hX d_Pa_beginsName_90 (by decide) ?_
      refine g_goto (pc := 91) (tgt := 95) hX d_Pa_beginsName_91 (by decide) ?_
      exact g_zret hX hQ true rfl h d_Pa_beginsName_95
  by_cases q2 : r2 = 73
  · have h := h.2.2.1 q2
    refine g_look (pc := 4) (tgt := 64) (off := 60) hX (v := 73) q2 d_Pa_beginsName_4 (by decide +kernel) (by decide +kernel) (by decide) ?_
    refine g_aload_n (pc := 64) hX d_Pa_beginsName_64 rfl 0 rfl ?_
    refine g_iconst (pc := 65) (v := 1) hX d_Pa_beginsName_65 (by decide) ?_
    refine g_callV_I (pc := 66) hX hR f3 cf2 rfl lk_Pa_96 mf_Pa_behind (c_Pa_behind _ _ _ _ h) rfl rfl rfl ⟨by decide, by decide⟩ (cat_sum _ (Nat.le_of_ble_eq_true rfl)) d_Pa_beginsName_66 (fun r9 A8 h => ?_)
    refine g_bipush (pc := 69) (v := 78) hX d_Pa_beginsName_69 (by decide) ?_
    refine g_icmp_ne (pc := 71) (tgt := 78) hX d_Pa_beginsName_71 (by decide) (fun q => ?_) (fun q => ?_)
    · have h := h.1 q
      refine g_iconst (pc := 78) (v := 0) hX d_Pa_beginsName_78 (by decide) ?_
      exact g_zret hX hQ false rfl h d_Pa_beginsName_79
    · have h := h.2 q
      refine g_iconst (pc := 74) (v := 1) hX d_Pa_beginsName_74 (by decide) ?_
      refine g_goto (pc := 75) (tgt := 79) hX d_Pa_beginsName_75 (by decide) ?_
      exact g_zret hX hQ true rfl h d_Pa_beginsName_79
  by_cases q3 : r2 = 83
  · have h := h.2.2.2.1 q3
    refine g_look (pc := 4) (tgt := 96) (off := 92) hX (v := 83) q3 d_Pa_beginsName_4 (by decide +kernel) (by decide +kernel) (by decide) ?_
    refine g_aload_n (pc := 96) hX d_Pa_beginsName_96 rfl 0 rfl ?_
    refine g_iconst (pc := 97) (v := 1) hX d_Pa_beginsName_97 (by decide) ?_
    refine g_callV_I (pc := 98) hX hR f3 cf2 rfl lk_Pa_96 mf_Pa_behind (c_Pa_behind _ _ _ _ h) rfl rfl rfl ⟨by decide, by decide⟩ (cat_sum _ (Nat.le_of_ble_eq_true rfl)) d_Pa_beginsName_98 (fun r11 A10 h => ?_)
    refine g_bipush (pc := 101) (v := 71) hX d_Pa_beginsName_101 (by decide) ?_
    refine g_icmp_ne (pc := 103) (tgt := 140) hX d_Pa_beginsName_103 (by decide) (fun q => ?_) (fun q => ?_)
    · have h := h.1 q
      refine g_iconst (pc := 140) (v := 0) hX d_Pa_beginsName_140 (by decide) ?_
      exact g_zret hX hQ false rfl h d_Pa_beginsName_141
    · have h := h.2 q
      refine g_aload_n (pc := 106) hX d_Pa_beginsName_106 rfl 0 rfl ?_
      refine g_getR (pc := 107) hX fl_Pa_12 rfl f3 d_Pa_beginsName_107 ?_
      obtain ⟨f12, h⟩ := h
      refine g_getR (pc := 110) hX fl_Pa_86 rfl f12 d_Pa_beginsName_110 ?_
      refine g_getsE (pc := 113) (i := 4) hX (gSF hX).1 (by decide) rfl (by decide) ls_Pa_285 d_Pa_beginsName_113 ?_
      obtain ⟨f13, h⟩ := h
      refine g_acmp_ne (pc := 116) (tgt := 136) hX f13 (show enk 1004 by unfold enk; omega) d_Pa_beginsName_116 (by decide) (fun q => ?_) (fun q => ?_)
      · have h := h.1 q
        refine g_iconst (pc := 136) (v := 1) hX d_Pa_beginsName_136 (by decide) ?_
        refine g_goto (pc := 137) (tgt := 141) hX d_Pa_beginsName_137 (by decide) ?_
        exact g_zret hX hQ true rfl h d_Pa_beginsName_141
      · have h := h.2 q
        refine g_aload_n (pc := 119) hX d_Pa_beginsName_119 rfl 0 rfl ?_
        refine g_getI (pc := 120) hX fl_Pa_30 rfl f3 d_Pa_beginsName_120 ?_
        refine g_if_gt (pc := 123) (tgt := 136) hX d_Pa_beginsName_123 (by decide) (fun q => ?_) (fun q => ?_)
        · have h := h.1 q
          refine g_iconst (pc := 136) (v := 1) hX d_Pa_beginsName_136 (by decide) ?_
          refine g_goto (pc := 137) (tgt := 141) hX d_Pa_beginsName_137 (by decide) ?_
          exact g_zret hX hQ true rfl h d_Pa_beginsName_141
        · have h := h.2 q
          refine g_aload_n (pc := 126) hX d_Pa_beginsName_126 rfl 0 rfl ?_
          refine g_iconst (pc := 127) (v := 2) hX d_Pa_beginsName_127 (by decide) ?_
          refine g_callV_I (pc := 128) hX hR f3 cf2 rfl lk_Pa_96 mf_Pa_behind (c_Pa_behind _ _ _ _ h) rfl rfl rfl ⟨by decide, by decide⟩ (cat_sum _ (Nat.le_of_ble_eq_true rfl)) d_Pa_beginsName_128 (fun r15 A14 h => ?_)
          refine g_bipush (pc := 131) (v := 78) hX d_Pa_beginsName_131 (by decide) ?_
          refine g_icmp_ne (pc := 133) (tgt := 140) hX d_Pa_beginsName_133 (by decide) (fun q => ?_) (fun q => ?_)
          · have h := h.1 q
            refine g_iconst (pc := 140) (v := 0) hX d_Pa_beginsName_140 (by decide) ?_
            exact g_zret hX hQ false rfl h d_Pa_beginsName_141
          · have h := h.2 q
            refine g_iconst (pc := 136) (v := 1) hX d_Pa_beginsName_136 (by decide) ?_
            refine g_goto (pc := 137) (tgt := 141) hX d_Pa_beginsName_137 (by decide) ?_
            exact g_zret hX hQ true rfl h d_Pa_beginsName_141
  have h := h.2.2.2.2 q0 q1 q2 q3
  refine g_lookout (pc := 4) (tgt := 142) hX (vs := [(65 : Int32), (70 : Int32), (73 : Int32), (83 : Int32)]) (List.forall_mem_cons.mpr ⟨q0, List.forall_mem_cons.mpr ⟨q1, List.forall_mem_cons.mpr ⟨q2, List.forall_mem_cons.mpr ⟨q3, fun _ h9 => absurd h9 List.not_mem_nil⟩⟩⟩⟩) d_Pa_beginsName_4 (by decide +kernel) (by decide +kernel) (by decide) ?_
  refine g_iconst (pc := 142) (v := 0) hX d_Pa_beginsName_142 (by decide) ?_
  exact g_zret hX hQ false rfl h d_Pa_beginsName_143
def wp_Pa_openBracket (o : Nat) (A : Mem) (K : Bool → Mem → Prop) : Prop := kd o = 2 ∧ ((6 ≤ (gI A o 4) → K false A) ∧ (¬ 6 ≤ (gI A o 4) → wp_Pa_skip o 40 A (fun (r3 : Bool) (A2 : Mem) => ((r3 = true → K true (sI A2 o 4 ((gI A2 o 4) + 1))) ∧ (r3 = false → K false A2)))))
set_option maxRecDepth 100000 in
set_option maxHeartbeats 4000000 in
theorem c_Pa_openBracket (o : Nat) (A : Mem) (K : Bool → Mem → Prop) (h : wp_Pa_openBracket o A K) : CtZ y_Pa_openBracket prog_10_method_40_code 1 1 21 (fun E => [cr E o]) A K := by
  refine ctZ_of "BasicMachine$Parser" (by decide) rfl (fun E => [(0, cr E o)]) (fun E => by simp [lg_sl, cr_cat, ca_i, ca_l, ca_d]) (fun E => by simp [lv_args, cr_cat, ca_i, ca_l, ca_d]) (fun X E hX hR hN hQ => ?_)
  unfold wp_Pa_openBracket at h
  refine g_aload_n (pc := 0) hX d_Pa_openBracket_0 rfl 0 rfl ?_
  obtain ⟨f1, h⟩ := h
  refine g_getI (pc := 1) hX fl_Pa_30 rfl f1 d_Pa_openBracket_1 ?_
  refine g_bipush (pc := 4) (v := 6) hX d_Pa_openBracket_4 (by decide) ?_
  refine g_icmp_ge (pc := 6) (tgt := 18) hX d_Pa_openBracket_6 (by decide) (fun q => ?_) (fun q => ?_)
  · have h := h.1 q
    refine g_iconst (pc := 18) (v := 0) hX d_Pa_openBracket_18 (by decide) ?_
    exact g_zret hX hQ false rfl h d_Pa_openBracket_19
  · have h := h.2 q
    refine g_aload_n (pc := 9) hX d_Pa_openBracket_9 rfl 0 rfl ?_
    refine g_bipush (pc := 10) (v := 40) hX d_Pa_openBracket_10 (by decide) ?_
    refine g_callV_Z (pc := 12) hX hR f1 cf2 rfl lk_Pa_68 mf_Pa_skip (c_Pa_skip _ _ _ _ h) rfl rfl rfl ⟨by decide, by decide⟩ (cat_sum _ (Nat.le_of_ble_eq_true rfl)) d_Pa_openBracket_12 (fun r3 A2 h => ?_)
    refine g_ifB_ne (pc := 15) (tgt := 20) hX d_Pa_openBracket_15 (by decide) (fun q => ?_) (fun q => ?_)
    · have h := h.1 q
      refine g_aload_n (pc := 20) hX d_Pa_openBracket_20 rfl 0 rfl ?_
      refine g_dup (pc := 21) hX d_Pa_openBracket_21 (cr_cat _ _) ?_
      refine g_getI (pc := 22) hX fl_Pa_30 rfl f1 d_Pa_openBracket_22 ?_
      refine g_iconst (pc := 25) (v := 1) hX d_Pa_openBracket_25 (by decide) ?_
      refine g_iadd (pc := 26) hX d_Pa_openBracket_26 ?_
      refine g_putI (pc := 27) hX fl_Pa_30 rfl rfl rfl f1 d_Pa_openBracket_27 ?_
      refine g_iconst (pc := 30) (v := 1) hX d_Pa_openBracket_30 (by decide) ?_
      exact g_zret hX hQ true rfl h d_Pa_openBracket_31
    · have h := h.2 q
      refine g_iconst (pc := 18) (v := 0) hX d_Pa_openBracket_18 (by decide) ?_
      exact g_zret hX hQ false rfl h d_Pa_openBracket_19
def wp_Pa_closeBracket (o : Nat) (A : Mem) (K : Bool → Mem → Prop) : Prop := kd o = 2 ∧ wp_Pa_skip o 41 A (fun (r2 : Bool) (A1 : Mem) => ((r2 = true → K true (sI A1 o 4 ((gI A1 o 4) - 1))) ∧ (r2 = false → K false A1)))
set_option maxRecDepth 100000 in
set_option maxHeartbeats 4000000 in
theorem c_Pa_closeBracket (o : Nat) (A : Mem) (K : Bool → Mem → Prop) (h : wp_Pa_closeBracket o A K) : CtZ y_Pa_closeBracket prog_10_method_41_code 1 1 21 (fun E => [cr E o]) A K := by
  refine ctZ_of "BasicMachine$Parser" (by decide) rfl (fun E => [(0, cr E o)]) (fun E => by simp [lg_sl, cr_cat, ca_i, ca_l, ca_d]) (fun E => by simp [lv_args, cr_cat, ca_i, ca_l, ca_d]) (fun X E hX hR hN hQ => ?_)
  unfold wp_Pa_closeBracket at h
  refine g_aload_n (pc := 0) hX d_Pa_closeBracket_0 rfl 0 rfl ?_
  refine g_bipush (pc := 1) (v := 41) hX d_Pa_closeBracket_1 (by decide) ?_
  obtain ⟨f3, h⟩ := h
  refine g_callV_Z (pc := 3) hX hR f3 cf2 rfl lk_Pa_68 mf_Pa_skip (c_Pa_skip _ _ _ _ h) rfl rfl rfl ⟨by decide, by decide⟩ (cat_sum _ (Nat.le_of_ble_eq_true rfl)) d_Pa_closeBracket_3 (fun r2 A1 h => ?_)
  refine g_ifB_ne (pc := 6) (tgt := 11) hX d_Pa_closeBracket_6 (by decide) (fun q => ?_) (fun q => ?_)
  · have h := h.1 q
    refine g_aload_n (pc := 11) hX d_Pa_closeBracket_11 rfl 0 rfl ?_
    refine g_dup (pc := 12) hX d_Pa_closeBracket_12 (cr_cat _ _) ?_
    refine g_getI (pc := 13) hX fl_Pa_30 rfl f3 d_Pa_closeBracket_13 ?_
    refine g_iconst (pc := 16) (v := 1) hX d_Pa_closeBracket_16 (by decide) ?_
    refine g_isub (pc := 17) hX d_Pa_closeBracket_17 ?_
    refine g_putI (pc := 18) hX fl_Pa_30 rfl rfl rfl f3 d_Pa_closeBracket_18 ?_
    refine g_iconst (pc := 21) (v := 1) hX d_Pa_closeBracket_21 (by decide) ?_
    exact g_zret hX hQ true rfl h d_Pa_closeBracket_22
  · have h := h.2 q
    refine g_iconst (pc := 9) (v := 0) hX d_Pa_closeBracket_9 (by decide) ?_
    exact g_zret hX hQ false rfl h d_Pa_closeBracket_10
def wp_Ma_gatherData_c17 (K : Mem → Prop) : Nat → Nat → Nat → Int32 → Mem → Prop
  | 0, _, _, _, _ => False
  | n + 1, x0, x1, x2, A => kd x1 = 3 ∧ (((gI A x1 9) ≤ x2 → K A) ∧ (¬ (gI A x1 9) ≤ x2 → kd x0 = 4 ∧ kd (gR A x0 12) = 53 ∧ (((Int32.ofNat (al (gR A x0 12))) ≤ (gI A x0 6) → K A) ∧ (¬ (Int32.ofNat (al (gR A x0 12))) ≤ (gI A x0 6) → wp_Li_numberAt x1 x2 A (fun (r7 : Int32) (A6 : Mem) => vf_n64 (FP.ddiv (FP.i2d r7) 4652007308841189376) ∧ vp_in (gI A x0 6) (al (gR A x0 12)) ∧ ∀ A10 : Mem, A10 = (sI (sD A6 (gR A x0 12) (Int32.toNatClampNeg (gI A x0 6)) (FP.ddiv (FP.i2d r7) 4652007308841189376)) x0 6 ((gI (sD A6 (gR A x0 12) (Int32.toNatClampNeg (gI A x0 6)) (FP.ddiv (FP.i2d r7) 4652007308841189376)) x0 6) + 1)) → wp_Ma_gatherData_c17 K n x0 x1 (x2 + 1) A10)))))
def wp_Ma_gatherData (o : Nat) (p1 : Nat) (A : Mem) (K : Mem → Prop) : Prop := ((p1 = 0 → K A) ∧ (¬ p1 = 0 → kd p1 = 3 ∧ enk (gR A p1 2) ∧ (((gR A p1 2) = 1010 → (∃ n9 : Nat, wp_Ma_gatherData_c17 K n9 o p1 0 A)) ∧ (¬ (gR A p1 2) = 1010 → K A))))
set_option maxRecDepth 100000 in
set_option maxHeartbeats 4000000 in
theorem k_Ma_gatherData_c17 {X : CXT} {E : EVT} {K : Mem → Prop} (hX : Gd X E "BasicMachine$Machine" prog_8_method_4_code) (hR : Rm X 1 21) (hN : xnL X = 3) (hQ : QV X E K) : ∀ (n : Nat) (x0 : Nat) (x1 : Nat) (x2 : Int32) (A : Mem), wp_Ma_gatherData_c17 K n x0 x1 x2 A → G X E A 17 [(0, cr E x0), (1, cr E x1), (2, .int (x2))] [] := by
  intro n
  induction n with
  | zero => intro x0 x1 x2 A h; exact h.elim
  | succ n ih =>
    intro x0 x1 x2 A h
    rw [wp_Ma_gatherData_c17] at h
    refine g_iload_n (pc := 17) hX d_Ma_gatherData_17 rfl 2 rfl ?_
    refine g_aload_n (pc := 18) hX d_Ma_gatherData_18 rfl 1 rfl ?_
    obtain ⟨f3, h⟩ := h
    refine g_getI (pc := 19) hX fl_Ma_123 rfl f3 d_Ma_gatherData_19 ?_
    refine g_icmp_ge (pc := 22) (tgt := 72) hX d_Ma_gatherData_22 (by decide) (fun q => ?_) (fun q => ?_)
    · have h := h.1 q
      exact g_vret hX hQ h d_Ma_gatherData_72
    · have h := h.2 q
      refine g_aload_n (pc := 25) hX d_Ma_gatherData_25 rfl 0 rfl ?_
      obtain ⟨f4, h⟩ := h
      refine g_getI (pc := 26) hX fl_Ma_104 rfl f4 d_Ma_gatherData_26 ?_
      refine g_aload_n (pc := 29) hX d_Ma_gatherData_29 rfl 0 rfl ?_
      refine g_getR (pc := 30) hX fl_Ma_44 rfl f4 d_Ma_gatherData_30 ?_
      obtain ⟨f5, h⟩ := h
      refine g_alen (pc := 33) hX f5 (by decide) rfl d_Ma_gatherData_33 ?_
      refine g_icmp_ge (pc := 34) (tgt := 72) hX d_Ma_gatherData_34 (by decide) (fun q => ?_) (fun q => ?_)
      · have h := h.1 q
        exact g_vret hX hQ h d_Ma_gatherData_72
      · have h := h.2 q
        refine g_aload_n (pc := 37) hX d_Ma_gatherData_37 rfl 0 rfl ?_
        refine g_getR (pc := 38) hX fl_Ma_44 rfl f4 d_Ma_gatherData_38 ?_
        refine g_aload_n (pc := 41) hX d_Ma_gatherData_41 rfl 0 rfl ?_
        refine g_getI (pc := 42) hX fl_Ma_104 rfl f4 d_Ma_gatherData_42 ?_
        refine g_aload_n (pc := 45) hX d_Ma_gatherData_45 rfl 1 rfl ?_
        refine g_iload_n (pc := 46) hX d_Ma_gatherData_46 rfl 2 rfl ?_
        refine g_callV_I (pc := 47) hX hR f3 cf3 rfl lk_Ma_126 mf_Li_numberAt (c_Li_numberAt _ _ _ _ h) rfl rfl rfl ⟨by decide, by decide⟩ (cat_sum _ (Nat.le_of_ble_eq_true rfl)) d_Ma_gatherData_47 (fun r7 A6 h => ?_)
        refine g_i2d (pc := 50) hX d_Ma_gatherData_50 ?_
        refine g_ldc2d (pc := 51) hX d_Ma_gatherData_51 cn_Ma_130 ?_
        obtain ⟨f8, h⟩ := h
        refine g_ddiv (pc := 54) hX d_Ma_gatherData_54 f8 ?_
        obtain ⟨f9, h⟩ := h
        refine g_dastore (pc := 55) hX f5 f9 d_Ma_gatherData_55 ?_
        refine g_aload_n (pc := 56) hX d_Ma_gatherData_56 rfl 0 rfl ?_
        refine g_dup (pc := 57) hX d_Ma_gatherData_57 (cr_cat _ _) ?_
        refine g_getI (pc := 58) hX fl_Ma_104 rfl f4 d_Ma_gatherData_58 ?_
        refine g_iconst (pc := 61) (v := 1) hX d_Ma_gatherData_61 (by decide) ?_
        refine g_iadd (pc := 62) hX d_Ma_gatherData_62 ?_
        refine g_putI (pc := 63) hX fl_Ma_104 rfl rfl rfl f4 d_Ma_gatherData_63 ?_
        refine g_nm (fun A10 eA10 => ?_)
        have h := h A10 eA10
        refine g_iinc (pc := 66) (v := (x2 + 1)) (lv0 := [(1, cr E x1), (0, cr E x0)]) hX d_Ma_gatherData_66 2 rfl rfl (by rw [hN]; decide) (g_st1b (ks := [1, 0]) rfl (cr_cat _ _) rfl rfl) ?_
        refine g_goto (pc := 69) (tgt := 17) hX d_Ma_gatherData_69 (by decide) ?_
        refine g_sub [2, 1, 0] rfl ?_
        exact ih _ _ _ _ h
set_option maxRecDepth 100000 in
set_option maxHeartbeats 4000000 in
theorem c_Ma_gatherData (o : Nat) (p1 : Nat) (A : Mem) (K : Mem → Prop) (h : wp_Ma_gatherData o p1 A K) : CtV y_Ma_gatherData prog_8_method_4_code 3 1 21 (fun E => [cr E o, cr E p1]) A K := by
  refine ctV_of "BasicMachine$Machine" (by decide) rfl (fun E => [(0, cr E o), (1, cr E p1)]) (fun E => by simp [lg_sl, cr_cat, ca_i, ca_l, ca_d]) (fun E => by simp [lv_args, cr_cat, ca_i, ca_l, ca_d]) (fun X E hX hR hN hQ => ?_)
  unfold wp_Ma_gatherData at h
  refine g_aload_n (pc := 0) hX d_Ma_gatherData_0 rfl 1 rfl ?_
  refine g_ifnull (pc := 1) (tgt := 14) hX d_Ma_gatherData_1 (by decide) (fun q => ?_) (fun q => ?_)
  · have h := h.1 q
    exact g_vret hX hQ h d_Ma_gatherData_14
  · have h := h.2 q
    refine g_aload_n (pc := 4) hX d_Ma_gatherData_4 rfl 1 rfl ?_
    obtain ⟨f1, h⟩ := h
    refine g_getR (pc := 5) hX fl_Ma_114 rfl f1 d_Ma_gatherData_5 ?_
    refine g_getsE (pc := 8) (i := 10) hX (gSF hX).1 (by decide) rfl (by decide) ls_Ma_118 d_Ma_gatherData_8 ?_
    obtain ⟨f2, h⟩ := h
    refine g_acmp_eq (pc := 11) (tgt := 15) hX f2 (show enk 1010 by unfold enk; omega) d_Ma_gatherData_11 (by decide) (fun q => ?_) (fun q => ?_)
    · have h := h.1 q
      refine g_iconst (pc := 15) (v := 0) hX d_Ma_gatherData_15 (by decide) ?_
      refine g_istore_n (pc := 16) (lv0 := [(1, cr E p1), (0, cr E o)]) hX d_Ma_gatherData_16 rfl (by rw [hN]; decide) (g_st1b (ks := [1, 0]) rfl (cr_cat _ _) rfl rfl) ?_
      refine g_sub [2, 1, 0] rfl ?_
      obtain ⟨n9, h⟩ := h
      exact k_Ma_gatherData_c17 hX hR hN hQ n9 _ _ _ _ h
    · have h := h.2 q
      exact g_vret hX hQ h d_Ma_gatherData_14
def wp_Ma_store (o : Nat) (p1 : Nat) (p2 : Int32) (p3 : UInt64) (A : Mem) (K : Mem → Prop) : Prop := kd o = 4 ∧ kd (gR A o 1) = 6 ∧ wp_Ca_isFine (gR A o 1) A (fun (r3 : Bool) (A2 : Mem) => ((r3 = true → kd p1 = 3 ∧ (((gI A2 p1 4) = 0 → kd (gR A2 o 1) = 6 ∧ wp_Ca_set (gR A2 o 1) (gI A2 p1 3) p3 A2 (fun (A6 : Mem) => K A6)) ∧ (¬ (gI A2 p1 4) = 0 → kd (gR A2 o 1) = 6 ∧ wp_Ca_matrixAt (gR A2 o 1) (gI A2 p1 3) A2 (fun (r9 : Nat) (A8 : Mem) => kd r9 = 7 ∧ wp_Mx_set r9 p2 p3 A8 (fun (A11 : Mem) => K A11))))) ∧ (r3 = false → K A2)))
set_option maxRecDepth 100000 in
set_option maxHeartbeats 4000000 in
theorem c_Ma_store (o : Nat) (p1 : Nat) (p2 : Int32) (p3 : UInt64) (A : Mem) (K : Mem → Prop) (h : wp_Ma_store o p1 p2 p3 A K) : CtV y_Ma_store prog_8_method_9_code 5 1 23 (fun E => [cr E o, cr E p1, .int (p2), .double (p3)]) A K := by
  refine ctV_of "BasicMachine$Machine" (by decide) rfl (fun E => [(0, cr E o), (1, cr E p1), (2, .int (p2)), (3, .double (p3))]) (fun E => by simp [lg_sl, cr_cat, ca_i, ca_l, ca_d]) (fun E => by simp [lv_args, cr_cat, ca_i, ca_l, ca_d]) (fun X E hX hR hN hQ => ?_)
  unfold wp_Ma_store at h
  refine g_aload_n (pc := 0) hX d_Ma_store_0 rfl 0 rfl ?_
  obtain ⟨f1, h⟩ := h
  refine g_getR (pc := 1) hX fl_Ma_21 rfl f1 d_Ma_store_1 ?_
  obtain ⟨f4, h⟩ := h
  refine g_callV_Z (pc := 4) hX hR f4 cf6 rfl lk_Ma_72 mf_Ca_isFine (c_Ca_isFine _ _ _ h) rfl rfl rfl ⟨by decide, by decide⟩ (cat_sum _ (Nat.le_of_ble_eq_true rfl)) d_Ma_store_4 (fun r3 A2 h => ?_)
  refine g_ifB_ne (pc := 7) (tgt := 11) hX d_Ma_store_7 (by decide) (fun q => ?_) (fun q => ?_)
  · have h := h.1 q
    refine g_aload_n (pc := 11) hX d_Ma_store_11 rfl 1 rfl ?_
    obtain ⟨f5, h⟩ := h
    refine g_getI (pc := 12) hX fl_Ma_205 rfl f5 d_Ma_store_12 ?_
    refine g_if_eq (pc := 15) (tgt := 37) hX d_Ma_store_15 (by decide) (fun q => ?_) (fun q => ?_)
    · have h := h.1 q
      refine g_aload_n (pc := 37) hX d_Ma_store_37 rfl 0 rfl ?_
      refine g_getR (pc := 38) hX fl_Ma_21 rfl f1 d_Ma_store_38 ?_
      refine g_aload_n (pc := 41) hX d_Ma_store_41 rfl 1 rfl ?_
      refine g_getI (pc := 42) hX fl_Ma_176 rfl f5 d_Ma_store_42 ?_
      refine g_dload_n (pc := 45) hX d_Ma_store_45 rfl 3 rfl ?_
      obtain ⟨f7, h⟩ := h
      refine g_callV_V (pc := 46) hX hR f7 cf6 rfl lk_Ma_227 mf_Ca_set (c_Ca_set _ _ _ _ _ h) rfl rfl rfl ⟨by decide, by decide⟩ (cat_sum _ (Nat.le_of_ble_eq_true rfl)) d_Ma_store_46 (fun A6 h => ?_)
      exact g_vret hX hQ h d_Ma_store_49
    · have h := h.2 q
      refine g_aload_n (pc := 18) hX d_Ma_store_18 rfl 0 rfl ?_
      refine g_getR (pc := 19) hX fl_Ma_21 rfl f1 d_Ma_store_19 ?_
      refine g_aload_n (pc := 22) hX d_Ma_store_22 rfl 1 rfl ?_
      refine g_getI (pc := 23) hX fl_Ma_176 rfl f5 d_Ma_store_23 ?_
      obtain ⟨f10, h⟩ := h
      refine g_callV_R (pc := 26) hX hR f10 cf6 rfl lk_Ma_185 mf_Ca_matrixAt (c_Ca_matrixAt _ _ _ _ h) rfl rfl rfl ⟨by decide, by decide⟩ (cat_sum _ (Nat.le_of_ble_eq_true rfl)) d_Ma_store_26 (fun r9 A8 h => ?_)
      refine g_iload_n (pc := 29) hX d_Ma_store_29 rfl 2 rfl ?_
      refine g_dload_n (pc := 30) hX d_Ma_store_30 rfl 3 rfl ?_
      obtain ⟨f12, h⟩ := h
      refine g_callV_V (pc := 31) hX hR f12 cf7 rfl lk_Ma_223 mf_Mx_set (c_Mx_set _ _ _ _ _ h) rfl rfl rfl ⟨by decide, by decide⟩ (cat_sum _ (Nat.le_of_ble_eq_true rfl)) d_Ma_store_31 (fun A11 h => ?_)
      refine g_goto (pc := 34) (tgt := 49) hX d_Ma_store_34 (by decide) ?_
      exact g_vret hX hQ h d_Ma_store_49
  · have h := h.2 q
    exact g_vret hX hQ h d_Ma_store_10
def wp_Ma_print (o : Nat) (p1 : UInt64) (A : Mem) (K : Mem → Prop) : Prop := kd o = 4 ∧ kd (gR A o 1) = 6 ∧ wp_Ca_isFine (gR A o 1) A (fun (r3 : Bool) (A2 : Mem) => ((r3 = true → kd (gR A2 o 3) = 53 ∧ (((Int32.ofNat (al (gR A2 o 3))) ≤ (gI A2 o 4) → K (sI A2 o 4 ((gI A2 o 4) + 1))) ∧ (¬ (Int32.ofNat (al (gR A2 o 3))) ≤ (gI A2 o 4) → vp_in (gI A2 o 4) (al (gR A2 o 3)) ∧ ∀ A7 : Mem, A7 = (sI (sD A2 (gR A2 o 3) (Int32.toNatClampNeg (gI A2 o 4)) p1) o 4 ((gI (sD A2 (gR A2 o 3) (Int32.toNatClampNeg (gI A2 o 4)) p1) o 4) + 1)) → K A7))) ∧ (r3 = false → K A2)))
set_option maxRecDepth 100000 in
set_option maxHeartbeats 4000000 in
theorem c_Ma_print (o : Nat) (p1 : UInt64) (A : Mem) (K : Mem → Prop) (h : wp_Ma_print o p1 A K) : CtV y_Ma_print prog_8_method_10_code 3 1 20 (fun E => [cr E o, .double (p1)]) A K := by
  refine ctV_of "BasicMachine$Machine" (by decide) rfl (fun E => [(0, cr E o), (1, .double (p1))]) (fun E => by simp [lg_sl, cr_cat, ca_i, ca_l, ca_d]) (fun E => by simp [lv_args, cr_cat, ca_i, ca_l, ca_d]) (fun X E hX hR hN hQ => ?_)
  unfold wp_Ma_print at h
  refine g_aload_n (pc := 0) hX d_Ma_print_0 rfl 0 rfl ?_
  obtain ⟨f1, h⟩ := h
  refine g_getR (pc := 1) hX fl_Ma_21 rfl f1 d_Ma_print_1 ?_
  obtain ⟨f4, h⟩ := h
  refine g_callV_Z (pc := 4) hX hR f4 cf6 rfl lk_Ma_72 mf_Ca_isFine (c_Ca_isFine _ _ _ h) rfl rfl rfl ⟨by decide, by decide⟩ (cat_sum _ (Nat.le_of_ble_eq_true rfl)) d_Ma_print_4 (fun r3 A2 h => ?_)
  refine g_ifB_ne (pc := 7) (tgt := 11) hX d_Ma_print_7 (by decide) (fun q => ?_) (fun q => ?_)
  · have h := h.1 q
    refine g_aload_n (pc := 11) hX d_Ma_print_11 rfl 0 rfl ?_
    refine g_getI (pc := 12) hX fl_Ma_101 rfl f1 d_Ma_print_12 ?_
    refine g_aload_n (pc := 15) hX d_Ma_print_15 rfl 0 rfl ?_
    refine g_getR (pc := 16) hX fl_Ma_32 rfl f1 d_Ma_print_16 ?_
    obtain ⟨f5, h⟩ := h
    refine g_alen (pc := 19) hX f5 (by decide) rfl d_Ma_print_19 ?_
    refine g_icmp_ge (pc := 20) (tgt := 33) hX d_Ma_print_20 (by decide) (fun q => ?_) (fun q => ?_)
    · have h := h.1 q
      refine g_aload_n (pc := 33) hX d_Ma_print_33 rfl 0 rfl ?_
      refine g_dup (pc := 34) hX d_Ma_print_34 (cr_cat _ _) ?_
      refine g_getI (pc := 35) hX fl_Ma_101 rfl f1 d_Ma_print_35 ?_
      refine g_iconst (pc := 38) (v := 1) hX d_Ma_print_38 (by decide) ?_
      refine g_iadd (pc := 39) hX d_Ma_print_39 ?_
      refine g_putI (pc := 40) hX fl_Ma_101 rfl rfl rfl f1 d_Ma_print_40 ?_
      exact g_vret hX hQ h d_Ma_print_43
    · have h := h.2 q
      refine g_aload_n (pc := 23) hX d_Ma_print_23 rfl 0 rfl ?_
      refine g_getR (pc := 24) hX fl_Ma_32 rfl f1 d_Ma_print_24 ?_
      refine g_aload_n (pc := 27) hX d_Ma_print_27 rfl 0 rfl ?_
      refine g_getI (pc := 28) hX fl_Ma_101 rfl f1 d_Ma_print_28 ?_
      refine g_dload_n (pc := 31) hX d_Ma_print_31 rfl 1 rfl ?_
      obtain ⟨f6, h⟩ := h
      refine g_dastore (pc := 32) hX f5 f6 d_Ma_print_32 ?_
      refine g_aload_n (pc := 33) hX d_Ma_print_33 rfl 0 rfl ?_
      refine g_dup (pc := 34) hX d_Ma_print_34 (cr_cat _ _) ?_
      refine g_getI (pc := 35) hX fl_Ma_101 rfl f1 d_Ma_print_35 ?_
      refine g_iconst (pc := 38) (v := 1) hX d_Ma_print_38 (by decide) ?_
      refine g_iadd (pc := 39) hX d_Ma_print_39 ?_
      refine g_putI (pc := 40) hX fl_Ma_101 rfl rfl rfl f1 d_Ma_print_40 ?_
      refine g_nm (fun A7 eA7 => ?_)
      have h := h A7 eA7
      exact g_vret hX hQ h d_Ma_print_43
  · have h := h.2 q
    exact g_vret hX hQ h d_Ma_print_10
def wp_Ma_goTo (o : Nat) (p1 : Int32) (A : Mem) (K : Mem → Prop) : Prop := kd o = 4 ∧ kd (gR A o 0) = 5 ∧ wp_Pr_find (gR A o 0) p1 A (fun (r3 : Int32) (A2 : Mem) => ((0 ≤ r3 → K (sI A2 o 14 r3)) ∧ (¬ 0 ≤ r3 → kd (gR A2 o 1) = 6 ∧ wp_Ca_fail (gR A2 o 1) 1203 A2 (fun (A5 : Mem) => K A5))))
set_option maxRecDepth 100000 in
set_option maxHeartbeats 4000000 in
theorem c_Ma_goTo (o : Nat) (p1 : Int32) (A : Mem) (K : Mem → Prop) (h : wp_Ma_goTo o p1 A K) : CtV y_Ma_goTo prog_8_method_11_code 3 3 65 (fun E => [cr E o, .int (p1)]) A K := by
  refine ctV_of "BasicMachine$Machine" (by decide) rfl (fun E => [(0, cr E o), (1, .int (p1))]) (fun E => by simp [lg_sl, cr_cat, ca_i, ca_l, ca_d]) (fun E => by simp [lv_args, cr_cat, ca_i, ca_l, ca_d]) (fun X E hX hR hN hQ => ?_)
  unfold wp_Ma_goTo at h
  refine g_aload_n (pc := 0) hX d_Ma_goTo_0 rfl 0 rfl ?_
  obtain ⟨f1, h⟩ := h
  refine g_getR (pc := 1) hX fl_Ma_12 rfl f1 d_Ma_goTo_1 ?_
  refine g_iload_n (pc := 4) hX d_Ma_goTo_4 rfl 1 rfl ?_
  obtain ⟨f4, h⟩ := h
  refine g_callV_I (pc := 5) hX hR f4 cf5 rfl lk_Ma_228 mf_Pr_find (c_Pr_find _ _ _ _ h) rfl rfl rfl ⟨by decide, by decide⟩ (cat_sum _ (Nat.le_of_ble_eq_true rfl)) d_Ma_goTo_5 (fun r3 A2 h => ?_)
  refine g_istore_n (pc := 8) (lv0 := [(1, .int (p1)), (0, cr E o)]) hX d_Ma_goTo_8 rfl (by rw [hN]; decide) (g_st1b (ks := [1, 0]) rfl rfl rfl rfl) ?_
  refine g_iload_n (pc := 9) hX d_Ma_goTo_9 rfl 0 rfl ?_
  refine g_if_ge (pc := 10) (tgt := 24) hX d_Ma_goTo_10 (by decide) (fun q => ?_) (fun q => ?_)
  · have h := h.1 q
    refine g_aload_n (pc := 24) hX d_Ma_goTo_24 rfl 2 rfl ?_
    refine g_iload_n (pc := 25) hX d_Ma_goTo_25 rfl 0 rfl ?_
    refine g_putI (pc := 26) hX fl_Ma_50 rfl rfl rfl f1 d_Ma_goTo_26 ?_
    exact g_vret hX hQ h d_Ma_goTo_29
  · have h := h.2 q
    refine g_aload_n (pc := 13) hX d_Ma_goTo_13 rfl 2 rfl ?_
    refine g_getR (pc := 14) hX fl_Ma_21 rfl f1 d_Ma_goTo_14 ?_
    refine g_getsE (pc := 17) (i := 3) hX (gSF hX).2.2.1 (by decide) rfl (by decide) ls_Ma_220 d_Ma_goTo_17 ?_
    obtain ⟨f6, h⟩ := h
    refine g_callV_V (pc := 20) hX hR f6 cf6 rfl lk_Ma_82 mf_Ca_fail (c_Ca_fail _ _ _ _ h) rfl rfl rfl ⟨by decide, by decide⟩ (cat_sum _ (Nat.le_of_ble_eq_true rfl)) d_Ma_goTo_20 (fun A5 h => ?_)
    exact g_vret hX hQ h d_Ma_goTo_23
def wp_Ma_goSub (o : Nat) (p1 : Int32) (A : Mem) (K : Mem → Prop) : Prop := kd o = 4 ∧ kd (gR A o 11) = 51 ∧ (((gI A o 5) < (Int32.ofNat (al (gR A o 11))) → wp_Ma_goTo o p1 A (fun (A3 : Mem) => kd (gR A3 o 1) = 6 ∧ wp_Ca_isFine (gR A3 o 1) A3 (fun (r5 : Bool) (A4 : Mem) => ((r5 = false → K A4) ∧ (r5 = true → kd (gR A4 o 11) = 51 ∧ vp_in (gI A4 o 5) (al (gR A4 o 11)) ∧ ∀ A9 : Mem, A9 = (sI (sI A4 (gR A4 o 11) (Int32.toNatClampNeg (gI A4 o 5)) ((gI A4 o 13) + 1)) o 5 ((gI (sI A4 (gR A4 o 11) (Int32.toNatClampNeg (gI A4 o 5)) ((gI A4 o 13) + 1)) o 5) + 1)) → K A9))))) ∧ (¬ (gI A o 5) < (Int32.ofNat (al (gR A o 11))) → kd (gR A o 1) = 6 ∧ wp_Ca_fail (gR A o 1) 1202 A (fun (A10 : Mem) => K A10)))
set_option maxRecDepth 100000 in
set_option maxHeartbeats 4000000 in
theorem c_Ma_goSub (o : Nat) (p1 : Int32) (A : Mem) (K : Mem → Prop) (h : wp_Ma_goSub o p1 A K) : CtV y_Ma_goSub prog_8_method_14_code 2 4 87 (fun E => [cr E o, .int (p1)]) A K := by
  refine ctV_of "BasicMachine$Machine" (by decide) rfl (fun E => [(0, cr E o), (1, .int (p1))]) (fun E => by simp [lg_sl, cr_cat, ca_i, ca_l, ca_d]) (fun E => by simp [lv_args, cr_cat, ca_i, ca_l, ca_d]) (fun X E hX hR hN hQ => ?_)
  unfold wp_Ma_goSub at h
  refine g_aload_n (pc := 0) hX d_Ma_goSub_0 rfl 0 rfl ?_
  obtain ⟨f1, h⟩ := h
  refine g_getI (pc := 1) hX fl_Ma_98 rfl f1 d_Ma_goSub_1 ?_
  refine g_aload_n (pc := 4) hX d_Ma_goSub_4 rfl 0 rfl ?_
  refine g_getR (pc := 5) hX fl_Ma_40 rfl f1 d_Ma_goSub_5 ?_
  obtain ⟨f2, h⟩ := h
  refine g_alen (pc := 8) hX f2 (by decide) rfl d_Ma_goSub_8 ?_
  refine g_icmp_lt (pc := 9) (tgt := 23) hX d_Ma_goSub_9 (by decide) (fun q => ?_) (fun q => ?_)
  · have h := h.1 q
    refine g_aload_n (pc := 23) hX d_Ma_goSub_23 rfl 0 rfl ?_
    refine g_iload_n (pc := 24) hX d_Ma_goSub_24 rfl 1 rfl ?_
    refine g_callV_V (pc := 25) hX hR f1 cf4 rfl lk_Ma_160 mf_Ma_goTo (c_Ma_goTo _ _ _ _ h) rfl rfl rfl ⟨by decide, by decide⟩ (cat_sum _ (Nat.le_of_ble_eq_true rfl)) d_Ma_goSub_25 (fun A3 h => ?_)
    refine g_aload_n (pc := 28) hX d_Ma_goSub_28 rfl 0 rfl ?_
    refine g_getR (pc := 29) hX fl_Ma_21 rfl f1 d_Ma_goSub_29 ?_
    obtain ⟨f6, h⟩ := h
    refine g_callV_Z (pc := 32) hX hR f6 cf6 rfl lk_Ma_72 mf_Ca_isFine (c_Ca_isFine _ _ _ h) rfl rfl rfl ⟨by decide, by decide⟩ (cat_sum _ (Nat.le_of_ble_eq_true rfl)) d_Ma_goSub_32 (fun r5 A4 h => ?_)
    refine g_ifB_eq (pc := 35) (tgt := 63) hX d_Ma_goSub_35 (by decide) (fun q => ?_) (fun q => ?_)
    · have h := h.1 q
      exact g_vret hX hQ h d_Ma_goSub_63
    · have h := h.2 q
      refine g_aload_n (pc := 38) hX d_Ma_goSub_38 rfl 0 rfl ?_
      refine g_getR (pc := 39) hX fl_Ma_40 rfl f1 d_Ma_goSub_39 ?_
      refine g_aload_n (pc := 42) hX d_Ma_goSub_42 rfl 0 rfl ?_
      refine g_getI (pc := 43) hX fl_Ma_98 rfl f1 d_Ma_goSub_43 ?_
      refine g_aload_n (pc := 46) hX d_Ma_goSub_46 rfl 0 rfl ?_
      refine g_getI (pc := 47) hX fl_Ma_65 rfl f1 d_Ma_goSub_47 ?_
      refine g_iconst (pc := 50) (v := 1) hX d_Ma_goSub_50 (by decide) ?_
      refine g_iadd (pc := 51) hX d_Ma_goSub_51 ?_
      obtain ⟨f7, h⟩ := h
      obtain ⟨f8, h⟩ := h
      refine g_iastore (pc := 52) hX f7 f8 d_Ma_goSub_52 ?_
      refine g_aload_n (pc := 53) hX d_Ma_goSub_53 rfl 0 rfl ?_
      refine g_dup (pc := 54) hX d_Ma_goSub_54 (cr_cat _ _) ?_
      refine g_getI (pc := 55) hX fl_Ma_98 rfl f1 d_Ma_goSub_55 ?_
      refine g_iconst (pc := 58) (v := 1) hX d_Ma_goSub_58 (by decide) ?_
      refine g_iadd (pc := 59) hX d_Ma_goSub_59 ?_
      refine g_putI (pc := 60) hX fl_Ma_98 rfl rfl rfl f1 d_Ma_goSub_60 ?_
      refine g_nm (fun A9 eA9 => ?_)
      have h := h A9 eA9
      exact g_vret hX hQ h d_Ma_goSub_63
  · have h := h.2 q
    refine g_aload_n (pc := 12) hX d_Ma_goSub_12 rfl 0 rfl ?_
    refine g_getR (pc := 13) hX fl_Ma_21 rfl f1 d_Ma_goSub_13 ?_
    refine g_getsE (pc := 16) (i := 2) hX (gSF hX).2.2.1 (by decide) rfl (by decide) ls_Ma_76 d_Ma_goSub_16 ?_
    obtain ⟨f11, h⟩ := h
    refine g_callV_V (pc := 19) hX hR f11 cf6 rfl lk_Ma_82 mf_Ca_fail (c_Ca_fail _ _ _ _ h) rfl rfl rfl ⟨by decide, by decide⟩ (cat_sum _ (Nat.le_of_ble_eq_true rfl)) d_Ma_goSub_19 (fun A10 h => ?_)
    exact g_vret hX hQ h d_Ma_goSub_22
def wp_Ma_goBack (o : Nat) (A : Mem) (K : Mem → Prop) : Prop := kd o = 4 ∧ ((0 < (gI A o 5) → kd (gR (sI A o 5 ((gI A o 5) - 1)) o 11) = 51 ∧ vp_in (gI (sI A o 5 ((gI A o 5) - 1)) o 5) (al (gR (sI A o 5 ((gI A o 5) - 1)) o 11)) ∧ ∀ A4 : Mem, A4 = (sI (sI A o 5 ((gI A o 5) - 1)) o 14 (gI (sI A o 5 ((gI A o 5) - 1)) (gR (sI A o 5 ((gI A o 5) - 1)) o 11) (Int32.toNatClampNeg (gI (sI A o 5 ((gI A o 5) - 1)) o 5)))) → K A4) ∧ (¬ 0 < (gI A o 5) → kd (gR A o 1) = 6 ∧ wp_Ca_fail (gR A o 1) 1202 A (fun (A5 : Mem) => K A5)))
set_option maxRecDepth 100000 in
set_option maxHeartbeats 4000000 in
theorem c_Ma_goBack (o : Nat) (A : Mem) (K : Mem → Prop) (h : wp_Ma_goBack o A K) : CtV y_Ma_goBack prog_8_method_15_code 1 1 21 (fun E => [cr E o]) A K := by
  refine ctV_of "BasicMachine$Machine" (by decide) rfl (fun E => [(0, cr E o)]) (fun E => by simp [lg_sl, cr_cat, ca_i, ca_l, ca_d]) (fun E => by simp [lv_args, cr_cat, ca_i, ca_l, ca_d]) (fun X E hX hR hN hQ => ?_)
  unfold wp_Ma_goBack at h
  refine g_aload_n (pc := 0) hX d_Ma_goBack_0 rfl 0 rfl ?_
  obtain ⟨f1, h⟩ := h
  refine g_getI (pc := 1) hX fl_Ma_98 rfl f1 d_Ma_goBack_1 ?_
  refine g_if_gt (pc := 4) (tgt := 18) hX d_Ma_goBack_4 (by decide) (fun q => ?_) (fun q => ?_)
  · have h := h.1 q
    refine g_aload_n (pc := 18) hX d_Ma_goBack_18 rfl 0 rfl ?_
    refine g_dup (pc := 19) hX d_Ma_goBack_19 (cr_cat _ _) ?_
    refine g_getI (pc := 20) hX fl_Ma_98 rfl f1 d_Ma_goBack_20 ?_
    refine g_iconst (pc := 23) (v := 1) hX d_Ma_goBack_23 (by decide) ?_
    refine g_isub (pc := 24) hX d_Ma_goBack_24 ?_
    refine g_putI (pc := 25) hX fl_Ma_98 rfl rfl rfl f1 d_Ma_goBack_25 ?_
    refine g_aload_n (pc := 28) hX d_Ma_goBack_28 rfl 0 rfl ?_
    refine g_aload_n (pc := 29) hX d_Ma_goBack_29 rfl 0 rfl ?_
    refine g_getR (pc := 30) hX fl_Ma_40 rfl f1 d_Ma_goBack_30 ?_
    refine g_aload_n (pc := 33) hX d_Ma_goBack_33 rfl 0 rfl ?_
    refine g_getI (pc := 34) hX fl_Ma_98 rfl f1 d_Ma_goBack_34 ?_
    obtain ⟨f2, h⟩ := h
    obtain ⟨f3, h⟩ := h
    refine g_iaload (pc := 37) hX f2 f3 d_Ma_goBack_37 ?_
    refine g_putI (pc := 38) hX fl_Ma_50 rfl rfl rfl f1 d_Ma_goBack_38 ?_
    refine g_nm (fun A4 eA4 => ?_)
    have h := h A4 eA4
    exact g_vret hX hQ h d_Ma_goBack_41
  · have h := h.2 q
    refine g_aload_n (pc := 7) hX d_Ma_goBack_7 rfl 0 rfl ?_
    refine g_getR (pc := 8) hX fl_Ma_21 rfl f1 d_Ma_goBack_8 ?_
    refine g_getsE (pc := 11) (i := 2) hX (gSF hX).2.2.1 (by decide) rfl (by decide) ls_Ma_76 d_Ma_goBack_11 ?_
    obtain ⟨f6, h⟩ := h
    refine g_callV_V (pc := 14) hX hR f6 cf6 rfl lk_Ma_82 mf_Ca_fail (c_Ca_fail _ _ _ _ h) rfl rfl rfl ⟨by decide, by decide⟩ (cat_sum _ (Nat.le_of_ble_eq_true rfl)) d_Ma_goBack_14 (fun A5 h => ?_)
    exact g_vret hX hQ h d_Ma_goBack_17
def wp_Ma_isOver (p0 : UInt64) (p2 : UInt64) (p4 : UInt64) (A : Mem) (K : Bool → Mem → Prop) : Prop := ((0 ≤ (Op.cmpValue (FP.dcmp p4 FP.dconst0) .g) → (((Op.cmpValue (FP.dcmp p0 p2) .l) ≤ 0 → K false A) ∧ (¬ (Op.cmpValue (FP.dcmp p0 p2) .l) ≤ 0 → K true A))) ∧ (¬ 0 ≤ (Op.cmpValue (FP.dcmp p4 FP.dconst0) .g) → ((0 ≤ (Op.cmpValue (FP.dcmp p0 p2) .g) → K false A) ∧ (¬ 0 ≤ (Op.cmpValue (FP.dcmp p0 p2) .g) → K true A))))
set_option maxRecDepth 100000 in
set_option maxHeartbeats 4000000 in
theorem c_Ma_isOver (p0 : UInt64) (p2 : UInt64) (p4 : UInt64) (A : Mem) (K : Bool → Mem → Prop) (h : wp_Ma_isOver p0 p2 p4 A K) : CtZ y_Ma_isOver prog_8_method_17_code 6 0 0 (fun E => [.double (p0), .double (p2), .double (p4)]) A K := by
  refine ctZ_of "BasicMachine$Machine" (by decide) rfl (fun E => [(0, .double (p0)), (2, .double (p2)), (4, .double (p4))]) (fun E => by simp [lg_sl, cr_cat, ca_i, ca_l, ca_d]) (fun E => by simp [lv_args, cr_cat, ca_i, ca_l, ca_d]) (fun X E hX hR hN hQ => ?_)
  unfold wp_Ma_isOver at h
  refine g_dload (pc := 0) hX d_Ma_isOver_0 2 rfl ?_
  refine g_dconst0 (pc := 2) hX d_Ma_isOver_2 ?_
  refine g_dcmp (pc := 3) hX d_Ma_isOver_3 ?_
  refine g_if_ge (pc := 4) (tgt := 21) hX d_Ma_isOver_4 (by decide) (fun q => ?_) (fun q => ?_)
  · have h := h.1 q
    refine g_dload_n (pc := 21) hX d_Ma_isOver_21 rfl 0 rfl ?_
    refine g_dload_n (pc := 22) hX d_Ma_isOver_22 rfl 1 rfl ?_
    refine g_dcmp (pc := 23) hX d_Ma_isOver_23 ?_
    refine g_if_le (pc := 24) (tgt := 31) hX d_Ma_isOver_24 (by decide) (fun q => ?_) (fun q => ?_)
    · have h := h.1 q
      refine g_iconst (pc := 31) (v := 0) hX d_Ma_isOver_31 (by decide) ?_
      exact g_zret hX hQ false rfl h d_Ma_isOver_32
    · have h := h.2 q
      refine g_iconst (pc := 27) (v := 1) hX d_Ma_isOver_27 (by decide) ?_
      refine g_goto (pc := 28) (tgt := 32) hX d_Ma_isOver_28 (by decide) ?_
      exact g_zret hX hQ true rfl h d_Ma_isOver_32
  · have h := h.2 q
    refine g_dload_n (pc := 7) hX d_Ma_isOver_7 rfl 0 rfl ?_
    refine g_dload_n (pc := 8) hX d_Ma_isOver_8 rfl 1 rfl ?_
    refine g_dcmp (pc := 9) hX d_Ma_isOver_9 ?_
    refine g_if_ge (pc := 10) (tgt := 17) hX d_Ma_isOver_10 (by decide) (fun q => ?_) (fun q => ?_)
    · have h := h.1 q
      refine g_iconst (pc := 17) (v := 0) hX d_Ma_isOver_17 (by decide) ?_
      refine g_goto (pc := 18) (tgt := 32) hX d_Ma_isOver_18 (by decide) ?_
      exact g_zret hX hQ false rfl h d_Ma_isOver_32
    · have h := h.2 q
      refine g_iconst (pc := 13) (v := 1) hX d_Ma_isOver_13 (by decide) ?_
      refine g_goto (pc := 14) (tgt := 32) hX d_Ma_isOver_14 (by decide) ?_
      exact g_zret hX hQ true rfl h d_Ma_isOver_32
def wp_Ma_skipLoop_c7 (K : Mem → Prop) : Nat → Nat → Int32 → Int32 → Mem → Prop
  | 0, _, _, _, _ => False
  | n + 1, x0, x1, x2, A => kd x0 = 4 ∧ kd (gR A x0 0) = 5 ∧ (((gI A (gR A x0 0) 0) ≤ x2 → kd (gR A x0 1) = 6 ∧ wp_Ca_fail (gR A x0 1) 1202 A (fun (A4 : Mem) => K A4)) ∧ (¬ (gI A (gR A x0 0) 0) ≤ x2 → wp_Pr_lineAt (gR A x0 0) x2 A (fun (r7 : Nat) (A6 : Mem) => ((r7 = 0 → wp_Ma_skipLoop_c7 K n x0 x1 (x2 + 1) A6) ∧ (¬ r7 = 0 → kd r7 = 3 ∧ enk (gR A6 r7 2) ∧ ((¬ (gR A6 r7 2) = 1008 → wp_Ma_skipLoop_c7 K n x0 x1 (x2 + 1) A6) ∧ ((gR A6 r7 2) = 1008 → ((¬ (gI A6 r7 3) = x1 → wp_Ma_skipLoop_c7 K n x0 x1 (x2 + 1) A6) ∧ ((gI A6 r7 3) = x1 → K (sI A6 x0 14 (x2 + 1)))))))))))
def wp_Ma_skipLoop (o : Nat) (p1 : Int32) (A : Mem) (K : Mem → Prop) : Prop := kd o = 4 ∧ (∃ n9 : Nat, wp_Ma_skipLoop_c7 K n9 o p1 ((gI A o 13) + 1) A)
set_option maxRecDepth 100000 in
set_option maxHeartbeats 4000000 in
theorem k_Ma_skipLoop_c7 {X : CXT} {E : EVT} {K : Mem → Prop} (hX : Gd X E "BasicMachine$Machine" prog_8_method_18_code) (hR : Rm X 1 21) (hN : xnL X = 4) (hQ : QV X E K) : ∀ (n : Nat) (x0 : Nat) (x1 : Int32) (x2 : Int32) (A : Mem), wp_Ma_skipLoop_c7 K n x0 x1 x2 A → G X E A 7 [(0, cr E x0), (1, .int (x1)), (2, .int (x2))] [] := by
  intro n
  induction n with
  | zero => intro x0 x1 x2 A h; exact h.elim
  | succ n ih =>
    intro x0 x1 x2 A h
    rw [wp_Ma_skipLoop_c7] at h
    refine g_iload_n (pc := 7) hX d_Ma_skipLoop_7 rfl 2 rfl ?_
    refine g_aload_n (pc := 8) hX d_Ma_skipLoop_8 rfl 0 rfl ?_
    obtain ⟨f2, h⟩ := h
    refine g_getR (pc := 9) hX fl_Ma_12 rfl f2 d_Ma_skipLoop_9 ?_
    obtain ⟨f3, h⟩ := h
    refine g_getI (pc := 12) hX fl_Ma_110 rfl f3 d_Ma_skipLoop_12 ?_
    refine g_icmp_ge (pc := 15) (tgt := 63) hX d_Ma_skipLoop_15 (by decide) (fun q => ?_) (fun q => ?_)
    · have h := h.1 q
      refine g_aload_n (pc := 63) hX d_Ma_skipLoop_63 rfl 0 rfl ?_
      refine g_getR (pc := 64) hX fl_Ma_21 rfl f2 d_Ma_skipLoop_64 ?_
      refine g_getsE (pc := 67) (i := 2) hX (gSF hX).2.2.1 (by decide) rfl (by decide) ls_Ma_76 d_Ma_skipLoop_67 ?_
      obtain ⟨f5, h⟩ := h
      refine g_callV_V (pc := 70) hX hR f5 cf6 rfl lk_Ma_82 mf_Ca_fail (c_Ca_fail _ _ _ _ h) rfl rfl rfl ⟨by decide, by decide⟩ (cat_sum _ (Nat.le_of_ble_eq_true rfl)) d_Ma_skipLoop_70 (fun A4 h => ?_)
      exact g_vret hX hQ h d_Ma_skipLoop_73
    · have h := h.2 q
      refine g_aload_n (pc := 18) hX d_Ma_skipLoop_18 rfl 0 rfl ?_
      refine g_getR (pc := 19) hX fl_Ma_12 rfl f2 d_Ma_skipLoop_19 ?_
      refine g_iload_n (pc := 22) hX d_Ma_skipLoop_22 rfl 2 rfl ?_
      refine g_callV_R (pc := 23) hX hR f3 cf5 rfl lk_Ma_53 mf_Pr_lineAt (c_Pr_lineAt _ _ _ _ h) rfl rfl rfl ⟨by decide, by decide⟩ (cat_sum _ (Nat.le_of_ble_eq_true rfl)) d_Ma_skipLoop_23 (fun r7 A6 h => ?_)
      refine g_astore_n (pc := 26) (lv0 := [(2, .int (x2)), (0, cr E x0), (1, .int (x1))]) hX d_Ma_skipLoop_26 rfl (by rw [hN]; decide) (g_st1b (ks := [2, 0, 1]) rfl rfl rfl rfl) ?_
      refine g_aload_n (pc := 27) hX d_Ma_skipLoop_27 rfl 0 rfl ?_
      refine g_ifnull (pc := 28) (tgt := 57) hX d_Ma_skipLoop_28 (by decide) (fun q => ?_) (fun q => ?_)
      · have h := h.1 q
        refine g_iinc (pc := 57) (v := (x2 + 1)) (lv0 := [(1, .int (x1)), (3, cr E r7), (0, cr E x0)]) hX d_Ma_skipLoop_57 1 rfl rfl (by rw [hN]; decide) (g_st1b (ks := [3, 0, 2]) rfl rfl rfl rfl) ?_
        refine g_goto (pc := 60) (tgt := 7) hX d_Ma_skipLoop_60 (by decide) ?_
        refine g_sub [3, 1, 0] rfl ?_
        exact ih _ _ _ _ h
      · have h := h.2 q
        refine g_aload_n (pc := 31) hX d_Ma_skipLoop_31 rfl 0 rfl ?_
        obtain ⟨f8, h⟩ := h
        refine g_getR (pc := 32) hX fl_Ma_114 rfl f8 d_Ma_skipLoop_32 ?_
        refine g_getsE (pc := 35) (i := 8) hX (gSF hX).1 (by decide) rfl (by decide) ls_Ma_252 d_Ma_skipLoop_35 ?_
        obtain ⟨f9, h⟩ := h
        refine g_acmp_ne (pc := 38) (tgt := 57) hX f9 (show enk 1008 by unfold enk; omega) d_Ma_skipLoop_38 (by decide) (fun q => ?_) (fun q => ?_)
        · have h := h.1 q
          refine g_iinc (pc := 57) (v := (x2 + 1)) (lv0 := [(1, .int (x1)), (3, cr E r7), (0, cr E x0)]) hX d_Ma_skipLoop_57 1 rfl rfl (by rw [hN]; decide) (g_st1b (ks := [3, 0, 2]) rfl rfl rfl rfl) ?_
          refine g_goto (pc := 60) (tgt := 7) hX d_Ma_skipLoop_60 (by decide) ?_
          refine g_sub [3, 1, 0] rfl ?_
          exact ih _ _ _ _ h
        · have h := h.2 q
          refine g_aload_n (pc := 41) hX d_Ma_skipLoop_41 rfl 0 rfl ?_
          refine g_getI (pc := 42) hX fl_Ma_176 rfl f8 d_Ma_skipLoop_42 ?_
          refine g_iload_n (pc := 45) hX d_Ma_skipLoop_45 rfl 3 rfl ?_
          refine g_icmp_ne (pc := 46) (tgt := 57) hX d_Ma_skipLoop_46 (by decide) (fun q => ?_) (fun q => ?_)
          · have h := h.1 q
            refine g_iinc (pc := 57) (v := (x2 + 1)) (lv0 := [(1, .int (x1)), (3, cr E r7), (0, cr E x0)]) hX d_Ma_skipLoop_57 1 rfl rfl (by rw [hN]; decide) (g_st1b (ks := [3, 0, 2]) rfl rfl rfl rfl) ?_
            refine g_goto (pc := 60) (tgt := 7) hX d_Ma_skipLoop_60 (by decide) ?_
            refine g_sub [3, 1, 0] rfl ?_
            exact ih _ _ _ _ h
          · have h := h.2 q
            refine g_aload_n (pc := 49) hX d_Ma_skipLoop_49 rfl 2 rfl ?_
            refine g_iload_n (pc := 50) hX d_Ma_skipLoop_50 rfl 1 rfl ?_
            refine g_iconst (pc := 51) (v := 1) hX d_Ma_skipLoop_51 (by decide) ?_
            refine g_iadd (pc := 52) hX d_Ma_skipLoop_52 ?_
            refine g_putI (pc := 53) hX fl_Ma_50 rfl rfl rfl f2 d_Ma_skipLoop_53 ?_
            exact g_vret hX hQ h d_Ma_skipLoop_56
set_option maxRecDepth 100000 in
set_option maxHeartbeats 4000000 in
theorem c_Ma_skipLoop (o : Nat) (p1 : Int32) (A : Mem) (K : Mem → Prop) (h : wp_Ma_skipLoop o p1 A K) : CtV y_Ma_skipLoop prog_8_method_18_code 4 1 21 (fun E => [cr E o, .int (p1)]) A K := by
  refine ctV_of "BasicMachine$Machine" (by decide) rfl (fun E => [(0, cr E o), (1, .int (p1))]) (fun E => by simp [lg_sl, cr_cat, ca_i, ca_l, ca_d]) (fun E => by simp [lv_args, cr_cat, ca_i, ca_l, ca_d]) (fun X E hX hR hN hQ => ?_)
  unfold wp_Ma_skipLoop at h
  refine g_aload_n (pc := 0) hX d_Ma_skipLoop_0 rfl 0 rfl ?_
  obtain ⟨f1, h⟩ := h
  refine g_getI (pc := 1) hX fl_Ma_65 rfl f1 d_Ma_skipLoop_1 ?_
  refine g_iconst (pc := 4) (v := 1) hX d_Ma_skipLoop_4 (by decide) ?_
  refine g_iadd (pc := 5) hX d_Ma_skipLoop_5 ?_
  refine g_istore_n (pc := 6) (lv0 := [(1, .int (p1)), (0, cr E o)]) hX d_Ma_skipLoop_6 rfl (by rw [hN]; decide) (g_st1b (ks := [1, 0]) rfl rfl rfl rfl) ?_
  refine g_sub [2, 1, 0] rfl ?_
  obtain ⟨n9, h⟩ := h
  exact k_Ma_skipLoop_c7 hX hR hN hQ n9 _ _ _ _ h
def wp_Ma_endLoop (o : Nat) (p1 : Int32) (A : Mem) (K : Mem → Prop) : Prop := kd o = 4 ∧ kd (gR A o 2) = 8 ∧ wp_Lo_find (gR A o 2) p1 A (fun (r3 : Int32) (A2 : Mem) => ((0 ≤ r3 → kd (gR A2 o 2) = 8 ∧ kd (gR (sI A2 (gR A2 o 2) 0 (r3 + 1)) o 2) = 8 ∧ wp_Lo_stepOf (gR (sI A2 (gR A2 o 2) 0 (r3 + 1)) o 2) r3 (sI A2 (gR A2 o 2) 0 (r3 + 1)) (fun (r7 : UInt64) (A6 : Mem) => kd (gR A6 o 1) = 6 ∧ wp_Ca_get (gR A6 o 1) p1 A6 (fun (r10 : UInt64) (A9 : Mem) => vf_n64 (FP.dadd r10 r7) ∧ wp_Ca_result (gR A6 o 1) (FP.dadd r10 r7) A9 (fun (r14 : UInt64) (A13 : Mem) => kd (gR A13 o 1) = 6 ∧ wp_Ca_isFine (gR A13 o 1) A13 (fun (r16 : Bool) (A15 : Mem) => ((r16 = true → kd (gR A15 o 1) = 6 ∧ wp_Ca_set (gR A15 o 1) p1 r14 A15 (fun (A18 : Mem) => kd (gR A18 o 2) = 8 ∧ wp_Lo_limitOf (gR A18 o 2) r3 A18 (fun (r21 : UInt64) (A20 : Mem) => wp_Ma_isOver r14 r21 r7 A20 (fun (r24 : Bool) (A23 : Mem) => ((r24 = false → kd (gR A23 o 2) = 8 ∧ wp_Lo_placeOf (gR A23 o 2) r3 A23 (fun (r26 : Int32) (A25 : Mem) => K (sI A25 o 14 (r26 + 1)))) ∧ (r24 = true → kd (gR A23 o 2) = 8 ∧ K (sI A23 (gR A23 o 2) 0 r3))))))) ∧ (r16 = false → K A15))))))) ∧ (¬ 0 ≤ r3 → kd (gR A2 o 1) = 6 ∧ wp_Ca_fail (gR A2 o 1) 1202 A2 (fun (A29 : Mem) => K A29))))
set_option maxRecDepth 100000 in
set_option maxHeartbeats 4000000 in
theorem c_Ma_endLoop (o : Nat) (p1 : Int32) (A : Mem) (K : Mem → Prop) (h : wp_Ma_endLoop o p1 A K) : CtV y_Ma_endLoop prog_8_method_19_code 7 1 25 (fun E => [cr E o, .int (p1)]) A K := by
  refine ctV_of "BasicMachine$Machine" (by decide) rfl (fun E => [(0, cr E o), (1, .int (p1))]) (fun E => by simp [lg_sl, cr_cat, ca_i, ca_l, ca_d]) (fun E => by simp [lv_args, cr_cat, ca_i, ca_l, ca_d]) (fun X E hX hR hN hQ => ?_)
  unfold wp_Ma_endLoop at h
  refine g_aload_n (pc := 0) hX d_Ma_endLoop_0 rfl 0 rfl ?_
  obtain ⟨f1, h⟩ := h
  refine g_getR (pc := 1) hX fl_Ma_28 rfl f1 d_Ma_endLoop_1 ?_
  refine g_iload_n (pc := 4) hX d_Ma_endLoop_4 rfl 1 rfl ?_
  obtain ⟨f4, h⟩ := h
  refine g_callV_I (pc := 5) hX hR f4 cf8 rfl lk_Ma_240 mf_Lo_find (c_Lo_find _ _ _ _ h) rfl rfl rfl ⟨by decide, by decide⟩ (cat_sum _ (Nat.le_of_ble_eq_true rfl)) d_Ma_endLoop_5 (fun r3 A2 h => ?_)
  refine g_istore_n (pc := 8) (lv0 := [(1, .int (p1)), (0, cr E o)]) hX d_Ma_endLoop_8 rfl (by rw [hN]; decide) (g_st1b (ks := [1, 0]) rfl rfl rfl rfl) ?_
  refine g_iload_n (pc := 9) hX d_Ma_endLoop_9 rfl 0 rfl ?_
  refine g_if_ge (pc := 10) (tgt := 24) hX d_Ma_endLoop_10 (by decide) (fun q => ?_) (fun q => ?_)
  · have h := h.1 q
    refine g_aload_n (pc := 24) hX d_Ma_endLoop_24 rfl 2 rfl ?_
    refine g_getR (pc := 25) hX fl_Ma_28 rfl f1 d_Ma_endLoop_25 ?_
    refine g_iload_n (pc := 28) hX d_Ma_endLoop_28 rfl 0 rfl ?_
    refine g_iconst (pc := 29) (v := 1) hX d_Ma_endLoop_29 (by decide) ?_
    refine g_iadd (pc := 30) hX d_Ma_endLoop_30 ?_
    obtain ⟨f5, h⟩ := h
    refine g_putI (pc := 31) hX fl_Ma_95 rfl rfl rfl f5 d_Ma_endLoop_31 ?_
    refine g_aload_n (pc := 34) hX d_Ma_endLoop_34 rfl 2 rfl ?_
    refine g_getR (pc := 35) hX fl_Ma_28 rfl f1 d_Ma_endLoop_35 ?_
    refine g_iload_n (pc := 38) hX d_Ma_endLoop_38 rfl 0 rfl ?_
    obtain ⟨f8, h⟩ := h
    refine g_callV_D (pc := 39) hX hR f8 cf8 rfl lk_Ma_255 mf_Lo_stepOf (c_Lo_stepOf _ _ _ _ h) rfl rfl rfl ⟨by decide, by decide⟩ (cat_sum _ (Nat.le_of_ble_eq_true rfl)) d_Ma_endLoop_39 (fun r7 A6 h => ?_)
    refine g_dstore_n (pc := 42) (lv0 := [(2, .int (r3)), (1, .int (p1)), (0, cr E o)]) hX d_Ma_endLoop_42 rfl (by rw [hN]; decide) (g_st2b (ks := [0, 1, 2]) rfl rfl rfl rfl rfl) ?_
    refine g_aload_n (pc := 43) hX d_Ma_endLoop_43 rfl 3 rfl ?_
    refine g_getR (pc := 44) hX fl_Ma_21 rfl f1 d_Ma_endLoop_44 ?_
    refine g_aload_n (pc := 47) hX d_Ma_endLoop_47 rfl 3 rfl ?_
    refine g_getR (pc := 48) hX fl_Ma_21 rfl f1 d_Ma_endLoop_48 ?_
    refine g_iload_n (pc := 51) hX d_Ma_endLoop_51 rfl 2 rfl ?_
    obtain ⟨f11, h⟩ := h
    refine g_callV_D (pc := 52) hX hR f11 cf6 rfl lk_Ma_259 mf_Ca_get (c_Ca_get _ _ _ _ h) rfl rfl rfl ⟨by decide, by decide⟩ (cat_sum _ (Nat.le_of_ble_eq_true rfl)) d_Ma_endLoop_52 (fun r10 A9 h => ?_)
    refine g_dload_n (pc := 55) hX d_Ma_endLoop_55 rfl 0 rfl ?_
    obtain ⟨f12, h⟩ := h
    refine g_dadd (pc := 56) hX d_Ma_endLoop_56 f12 ?_
    refine g_callV_D (pc := 57) hX hR f11 cf6 rfl lk_Ma_262 mf_Ca_result (c_Ca_result _ _ _ _ h) rfl rfl rfl ⟨by decide, by decide⟩ (cat_sum _ (Nat.le_of_ble_eq_true rfl)) d_Ma_endLoop_57 (fun r14 A13 h => ?_)
    refine g_dstore (pc := 60) (lv0 := [(3, .double (r7)), (2, .int (r3)), (1, .int (p1)), (0, cr E o)]) hX d_Ma_endLoop_60 (by rw [hN]; decide) (g_st2 (ks := [0, 1, 2, 3]) rfl rfl) ?_
    refine g_aload_n (pc := 62) hX d_Ma_endLoop_62 rfl 4 rfl ?_
    refine g_getR (pc := 63) hX fl_Ma_21 rfl f1 d_Ma_endLoop_63 ?_
    obtain ⟨f17, h⟩ := h
    refine g_callV_Z (pc := 66) hX hR f17 cf6 rfl lk_Ma_72 mf_Ca_isFine (c_Ca_isFine _ _ _ h) rfl rfl rfl ⟨by decide, by decide⟩ (cat_sum _ (Nat.le_of_ble_eq_true rfl)) d_Ma_endLoop_66 (fun r16 A15 h => ?_)
    refine g_ifB_ne (pc := 69) (tgt := 73) hX d_Ma_endLoop_69 (by decide) (fun q => ?_) (fun q => ?_)
    · have h := h.1 q
      refine g_aload_n (pc := 73) hX d_Ma_endLoop_73 rfl 4 rfl ?_
      refine g_getR (pc := 74) hX fl_Ma_21 rfl f1 d_Ma_endLoop_74 ?_
      refine g_iload_n (pc := 77) hX d_Ma_endLoop_77 rfl 3 rfl ?_
      refine g_dload (pc := 78) hX d_Ma_endLoop_78 0 rfl ?_
      obtain ⟨f19, h⟩ := h
      refine g_callV_V (pc := 80) hX hR f19 cf6 rfl lk_Ma_227 mf_Ca_set (c_Ca_set _ _ _ _ _ h) rfl rfl rfl ⟨by decide, by decide⟩ (cat_sum _ (Nat.le_of_ble_eq_true rfl)) d_Ma_endLoop_80 (fun A18 h => ?_)
      refine g_dload (pc := 83) hX d_Ma_endLoop_83 0 rfl ?_
      refine g_aload_n (pc := 85) hX d_Ma_endLoop_85 rfl 4 rfl ?_
      refine g_getR (pc := 86) hX fl_Ma_28 rfl f1 d_Ma_endLoop_86 ?_
      refine g_iload_n (pc := 89) hX d_Ma_endLoop_89 rfl 2 rfl ?_
      obtain ⟨f22, h⟩ := h
      refine g_callV_D (pc := 90) hX hR f22 cf8 rfl lk_Ma_266 mf_Lo_limitOf (c_Lo_limitOf _ _ _ _ h) rfl rfl rfl ⟨by decide, by decide⟩ (cat_sum _ (Nat.le_of_ble_eq_true rfl)) d_Ma_endLoop_90 (fun r21 A20 h => ?_)
      refine g_dload_n (pc := 93) hX d_Ma_endLoop_93 rfl 1 rfl ?_
      refine g_callS_Z (pc := 94) hX hR lk_Ma_241 mf_Ma_isOver (c_Ma_isOver _ _ _ _ _ h) rfl rfl rfl ⟨by decide, by decide⟩ (cat_sum _ (Nat.le_of_ble_eq_true rfl)) d_Ma_endLoop_94 (fun r24 A23 h => ?_)
      refine g_ifB_eq (pc := 97) (tgt := 111) hX d_Ma_endLoop_97 (by decide) (fun q => ?_) (fun q => ?_)
      · have h := h.1 q
        refine g_aload_n (pc := 111) hX d_Ma_endLoop_111 rfl 4 rfl ?_
        refine g_aload_n (pc := 112) hX d_Ma_endLoop_112 rfl 4 rfl ?_
        refine g_getR (pc := 113) hX fl_Ma_28 rfl f1 d_Ma_endLoop_113 ?_
        refine g_iload_n (pc := 116) hX d_Ma_endLoop_116 rfl 2 rfl ?_
        obtain ⟨f27, h⟩ := h
        refine g_callV_I (pc := 117) hX hR f27 cf8 rfl lk_Ma_269 mf_Lo_placeOf (c_Lo_placeOf _ _ _ _ h) rfl rfl rfl ⟨by decide, by decide⟩ (cat_sum _ (Nat.le_of_ble_eq_true rfl)) d_Ma_endLoop_117 (fun r26 A25 h => ?_)
        refine g_iconst (pc := 120) (v := 1) hX d_Ma_endLoop_120 (by decide) ?_
        refine g_iadd (pc := 121) hX d_Ma_endLoop_121 ?_
        refine g_putI (pc := 122) hX fl_Ma_50 rfl rfl rfl f1 d_Ma_endLoop_122 ?_
        exact g_vret hX hQ h d_Ma_endLoop_125
      · have h := h.2 q
        refine g_aload_n (pc := 100) hX d_Ma_endLoop_100 rfl 4 rfl ?_
        refine g_getR (pc := 101) hX fl_Ma_28 rfl f1 d_Ma_endLoop_101 ?_
        refine g_iload_n (pc := 104) hX d_Ma_endLoop_104 rfl 2 rfl ?_
        obtain ⟨f28, h⟩ := h
        refine g_putI (pc := 105) hX fl_Ma_95 rfl rfl rfl f28 d_Ma_endLoop_105 ?_
        refine g_goto (pc := 108) (tgt := 125) hX d_Ma_endLoop_108 (by decide) ?_
        exact g_vret hX hQ h d_Ma_endLoop_125
    · have h := h.2 q
      exact g_vret hX hQ h d_Ma_endLoop_72
  · have h := h.2 q
    refine g_aload_n (pc := 13) hX d_Ma_endLoop_13 rfl 2 rfl ?_
    refine g_getR (pc := 14) hX fl_Ma_21 rfl f1 d_Ma_endLoop_14 ?_
    refine g_getsE (pc := 17) (i := 2) hX (gSF hX).2.2.1 (by decide) rfl (by decide) ls_Ma_76 d_Ma_endLoop_17 ?_
    obtain ⟨f30, h⟩ := h
    refine g_callV_V (pc := 20) hX hR f30 cf6 rfl lk_Ma_82 mf_Ca_fail (c_Ca_fail _ _ _ _ h) rfl rfl rfl ⟨by decide, by decide⟩ (cat_sum _ (Nat.le_of_ble_eq_true rfl)) d_Ma_endLoop_20 (fun A29 h => ?_)
    exact g_vret hX hQ h d_Ma_endLoop_23
def wp_BM_errorAt (o : Nat) (A : Mem) (K : Int32 → Mem → Prop) : Prop := kd o = 1 ∧ K (gI A o 2) A
set_option maxRecDepth 100000 in
set_option maxHeartbeats 4000000 in
theorem c_BM_errorAt (o : Nat) (A : Mem) (K : Int32 → Mem → Prop) (h : wp_BM_errorAt o A K) : CtI y_BM_errorAt prog_1_method_4_code 1 0 0 (fun E => [cr E o]) A K := by
  refine ctI_of "BasicMachine" (by decide) rfl (fun E => [(0, cr E o)]) (fun E => by simp [lg_sl, cr_cat, ca_i, ca_l, ca_d]) (fun E => by simp [lv_args, cr_cat, ca_i, ca_l, ca_d]) (fun X E hX hR hN hQ => ?_)
  unfold wp_BM_errorAt at h
  refine g_aload_n (pc := 0) hX d_BM_errorAt_0 rfl 0 rfl ?_
  obtain ⟨f1, h⟩ := h
  refine g_getI (pc := 1) hX fl_BM_13 rfl f1 d_BM_errorAt_1 ?_
  exact g_iret hX hQ h d_BM_errorAt_4
def wp_BM_wipe (o : Nat) (A : Mem) (K : Int32 → Mem → Prop) : Prop := kd o = 1 ∧ kd (gR A o 4) = 4 ∧ kd (gR A (gR A o 4) 0) = 5 ∧ K (gI A (gR A (gR A o 4) 0) 0) (sI A (gR A (gR A o 4) 0) 0 0)
set_option maxRecDepth 100000 in
set_option maxHeartbeats 4000000 in
theorem c_BM_wipe (o : Nat) (A : Mem) (K : Int32 → Mem → Prop) (h : wp_BM_wipe o A K) : CtI y_BM_wipe prog_1_method_5_code 2 0 0 (fun E => [cr E o]) A K := by
  refine ctI_of "BasicMachine" (by decide) rfl (fun E => [(0, cr E o)]) (fun E => by simp [lg_sl, cr_cat, ca_i, ca_l, ca_d]) (fun E => by simp [lv_args, cr_cat, ca_i, ca_l, ca_d]) (fun X E hX hR hN hQ => ?_)
  unfold wp_BM_wipe at h
  refine g_aload_n (pc := 0) hX d_BM_wipe_0 rfl 0 rfl ?_
  obtain ⟨f1, h⟩ := h
  refine g_getR (pc := 1) hX fl_BM_27 rfl f1 d_BM_wipe_1 ?_
  obtain ⟨f2, h⟩ := h
  refine g_getR (pc := 4) hX fl_BM_65 rfl f2 d_BM_wipe_4 ?_
  obtain ⟨f3, h⟩ := h
  refine g_getI (pc := 7) hX fl_BM_83 rfl f3 d_BM_wipe_7 ?_
  refine g_istore_n (pc := 10) (lv0 := [(0, cr E o)]) hX d_BM_wipe_10 rfl (by rw [hN]; decide) (g_st1b (ks := [0]) rfl (cr_cat _ _) rfl rfl) ?_
  refine g_aload_n (pc := 11) hX d_BM_wipe_11 rfl 1 rfl ?_
  refine g_getR (pc := 12) hX fl_BM_27 rfl f1 d_BM_wipe_12 ?_
  refine g_getR (pc := 15) hX fl_BM_65 rfl f2 d_BM_wipe_15 ?_
  refine g_iconst (pc := 18) (v := 0) hX d_BM_wipe_18 (by decide) ?_
  refine g_putI (pc := 19) hX fl_BM_83 rfl rfl rfl f3 d_BM_wipe_19 ?_
  refine g_iload_n (pc := 22) hX d_BM_wipe_22 rfl 0 rfl ?_
  exact g_iret hX hQ h d_BM_wipe_23
def wp_BM_at (o : Nat) (A : Mem) (K : Int32 → Mem → Prop) : Prop := kd o = 1 ∧ kd (gR A o 4) = 4 ∧ K (gI A (gR A o 4) 9) A
set_option maxRecDepth 100000 in
set_option maxHeartbeats 4000000 in
theorem c_BM_at (o : Nat) (A : Mem) (K : Int32 → Mem → Prop) (h : wp_BM_at o A K) : CtI y_BM_at prog_1_method_10_code 1 0 0 (fun E => [cr E o]) A K := by
  refine ctI_of "BasicMachine" (by decide) rfl (fun E => [(0, cr E o)]) (fun E => by simp [lg_sl, cr_cat, ca_i, ca_l, ca_d]) (fun E => by simp [lv_args, cr_cat, ca_i, ca_l, ca_d]) (fun X E hX hR hN hQ => ?_)
  unfold wp_BM_at at h
  refine g_aload_n (pc := 0) hX d_BM_at_0 rfl 0 rfl ?_
  obtain ⟨f1, h⟩ := h
  refine g_getR (pc := 1) hX fl_BM_27 rfl f1 d_BM_at_1 ?_
  obtain ⟨f2, h⟩ := h
  refine g_getI (pc := 4) hX fl_BM_145 rfl f2 d_BM_at_4 ?_
  exact g_iret hX hQ h d_BM_at_7
def wp_BM_count (o : Nat) (p1 : Int32) (A : Mem) (K : Int32 → Mem → Prop) : Prop := ((p1 = 0 → kd o = 1 ∧ K (gI A o 1) A) ∧ (p1 = 1 → kd o = 1 ∧ kd (gR A o 4) = 4 ∧ kd (gR A (gR A o 4) 0) = 5 ∧ K (gI A (gR A (gR A o 4) 0) 0) A) ∧ (p1 = 2 → kd o = 1 ∧ kd (gR A o 4) = 4 ∧ K (gI A (gR A o 4) 8) A) ∧ (p1 = 3 → kd o = 1 ∧ kd (gR A o 4) = 4 ∧ K (gI A (gR A o 4) 4) A) ∧ (p1 = 4 → kd o = 1 ∧ kd (gR A o 4) = 4 ∧ kd (gR A (gR A o 4) 2) = 8 ∧ K (gI A (gR A (gR A o 4) 2) 0) A) ∧ (p1 = 5 → kd o = 1 ∧ kd (gR A o 4) = 4 ∧ K (gI A (gR A o 4) 5) A) ∧ (p1 = 6 → kd o = 1 ∧ kd (gR A o 4) = 4 ∧ K ((gI A (gR A o 4) 6) - (gI A (gR A o 4) 7)) A) ∧ (p1 = 7 → kd o = 1 ∧ kd (gR A o 4) = 4 ∧ K (gI A (gR A o 4) 10) A) ∧ (p1 = 8 → kd o = 1 ∧ kd (gR A o 4) = 4 ∧ kd (gR A (gR A o 4) 0) = 5 ∧ wp_Pr_numberOf (gR A (gR A o 4) 0) 0 A (fun (r21 : Int32) (A20 : Mem) => K r21 A20)) ∧ (p1 = 9 → kd o = 1 ∧ kd (gR A o 4) = 4 ∧ kd (gR A (gR A o 4) 0) = 5 ∧ wp_Pr_numberOf (gR A (gR A o 4) 0) ((gI A (gR A (gR A o 4) 0) 0) - 1) A (fun (r27 : Int32) (A26 : Mem) => K r27 A26)) ∧ (¬ p1 = 0 → ¬ p1 = 1 → ¬ p1 = 2 → ¬ p1 = 3 → ¬ p1 = 4 → ¬ p1 = 5 → ¬ p1 = 6 → ¬ p1 = 7 → ¬ p1 = 8 → ¬ p1 = 9 → K (-1) A))
set_option maxRecDepth 100000 in
set_option maxHeartbeats 4000000 in
theorem c_BM_count (o : Nat) (p1 : Int32) (A : Mem) (K : Int32 → Mem → Prop) (h : wp_BM_count o p1 A K) : CtI y_BM_count prog_1_method_11_code 2 2 43 (fun E => [cr E o, .int (p1)]) A K := by
  refine ctI_of "BasicMachine" (by decide) rfl (fun E => [(0, cr E o), (1, .int (p1))]) (fun E => by simp [lg_sl, cr_cat, ca_i, ca_l, ca_d]) (fun E => by simp [lv_args, cr_cat, ca_i, ca_l, ca_d]) (fun X E hX hR hN hQ => ?_)
  unfold wp_BM_count at h
  refine g_iload_n (pc := 0) hX d_BM_count_0 rfl 1 rfl ?_
  by_cases q0 : p1 = 0
  · have h := h.1 q0
    refine g_tabin (pc := 1) (tgt := 56) (off := 55) hX (v := 0) q0 d_BM_count_1 (by decide) (by decide) (by decide +kernel) (by decide) ?_
    refine g_aload_n (pc := 56) hX d_BM_count_56 rfl 0 rfl ?_
    obtain ⟨f1, h⟩ := h
    refine g_getI (pc := 57) hX fl_BM_38 rfl f1 d_BM_count_57 ?_
    exact g_iret hX hQ h d_BM_count_60
  by_cases q1 : p1 = 1
  · have h := h.2.1 q1
    refine g_tabin (pc := 1) (tgt := 61) (off := 60) hX (v := 1) q1 d_BM_count_1 (by decide) (by decide) (by decide +kernel) (by decide) ?_
    refine g_aload_n (pc := 61) hX d_BM_count_61 rfl 0 rfl ?_
    obtain ⟨f2, h⟩ := h
    refine g_getR (pc := 62) hX fl_BM_27 rfl f2 d_BM_count_62 ?_
    obtain ⟨f3, h⟩ := h
    refine g_getR (pc := 65) hX fl_BM_65 rfl f3 d_BM_count_65 ?_
    obtain ⟨f4, h⟩ := h
    refine g_getI (pc := 68) hX fl_BM_83 rfl f4 d_BM_count_68 ?_
    exact g_iret hX hQ h d_BM_count_71
  by_cases q2 : p1 = 2
  · have h := h.2.2.1 q2
    refine g_tabin (pc := 1) (tgt := 72) (off := 71) hX (v := 2) q2 d_BM_count_1 (by decide) (by decide) (by decide +kernel) (by decide) ?_
    refine g_aload_n (pc := 72) hX d_BM_count_72 rfl 0 rfl ?_
    obtain ⟨f5, h⟩ := h
    refine g_getR (pc := 73) hX fl_BM_27 rfl f5 d_BM_count_73 ?_
    obtain ⟨f6, h⟩ := h
    refine g_getI (pc := 76) hX fl_BM_100 rfl f6 d_BM_count_76 ?_
    exact g_iret hX hQ h d_BM_count_79
  by_cases q3 : p1 = 3
  · have h := h.2.2.2.1 q3
    refine g_tabin (pc := 1) (tgt := 80) (off := 79) hX (v := 3) q3 d_BM_count_1 (by decide) (by decide) (by decide +kernel) (by decide) ?_
    refine g_aload_n (pc := 80) hX d_BM_count_80 rfl 0 rfl ?_
    obtain ⟨f7, h⟩ := h
    refine g_getR (pc := 81) hX fl_BM_27 rfl f7 d_BM_count_81 ?_
    obtain ⟨f8, h⟩ := h
    refine g_getI (pc := 84) hX fl_BM_103 rfl f8 d_BM_count_84 ?_
    exact g_iret hX hQ h d_BM_count_87
  by_cases q4 : p1 = 4
  · have h := h.2.2.2.2.1 q4
    refine g_tabin (pc := 1) (tgt := 88) (off := 87) hX (v := 4) q4 d_BM_count_1 (by decide) (by decide) (by decide +kernel) (by decide) ?_
    refine g_aload_n (pc := 88) hX d_BM_count_88 rfl 0 rfl ?_
    obtain ⟨f9, h⟩ := h
    refine g_getR (pc := 89) hX fl_BM_27 rfl f9 d_BM_count_89 ?_
    obtain ⟨f10, h⟩ := h
    refine g_getR (pc := 92) hX fl_BM_148 rfl f10 d_BM_count_92 ?_
    obtain ⟨f11, h⟩ := h
    refine g_getI (pc := 95) hX fl_BM_152 rfl f11 d_BM_count_95 ?_
    exact g_iret hX hQ h d_BM_count_98
  by_cases q5 : p1 = 5
  · have h := h.2.2.2.2.2.1 q5
    refine g_tabin (pc := 1) (tgt := 99) (off := 98) hX (v := 5) q5 d_BM_count_1 (by decide) (by decide) (by decide +kernel) (by decide) ?_
    refine g_aload_n (pc := 99) hX d_BM_count_99 rfl 0 rfl ?_
    obtain ⟨f12, h⟩ := h
    refine g_getR (pc := 100) hX fl_BM_27 rfl f12 d_BM_count_100 ?_
    obtain ⟨f13, h⟩ := h
    refine g_getI (pc := 103) hX fl_BM_155 rfl f13 d_BM_count_103 ?_
    exact g_iret hX hQ h d_BM_count_106
  by_cases q6 : p1 = 6
  · have h := h.2.2.2.2.2.2.1 q6
    refine g_tabin (pc := 1) (tgt := 107) (off := 106) hX (v := 6) q6 d_BM_count_1 (by decide) (by decide) (by decide +kernel) (by decide) ?_
    refine g_aload_n (pc := 107) hX d_BM_count_107 rfl 0 rfl ?_
    obtain ⟨f14, h⟩ := h
    refine g_getR (pc := 108) hX fl_BM_27 rfl f14 d_BM_count_108 ?_
    obtain ⟨f15, h⟩ := h
    refine g_getI (pc := 111) hX fl_BM_158 rfl f15 d_BM_count_111 ?_
    refine g_aload_n (pc := 114) hX d_BM_count_114 rfl 0 rfl ?_
    refine g_getR (pc := 115) hX fl_BM_27 rfl f14 d_BM_count_115 ?_
    refine g_getI (pc := 118) hX fl_BM_161 rfl f15 d_BM_count_118 ?_
    refine g_isub (pc := 121) hX d_BM_count_121 ?_
    exact g_iret hX hQ h d_BM_count_122
  by_cases q7 : p1 = 7
  · have h := h.2.2.2.2.2.2.2.1 q7
    refine g_tabin (pc := 1) (tgt := 123) (off := 122) hX (v := 7) q7 d_BM_count_1 (by decide) (by decide) (by decide +kernel) (by decide) ?_
    refine g_aload_n (pc := 123) hX d_BM_count_123 rfl 0 rfl ?_
    obtain ⟨f16, h⟩ := h
    refine g_getR (pc := 124) hX fl_BM_27 rfl f16 d_BM_count_124 ?_
    obtain ⟨f17, h⟩ := h
    refine g_getI (pc := 127) hX fl_BM_164 rfl f17 d_BM_count_127 ?_
    exact g_iret hX hQ h d_BM_count_130
  by_cases q8 : p1 = 8
  · have h := h.2.2.2.2.2.2.2.2.1 q8
    refine g_tabin (pc := 1) (tgt := 131) (off := 130) hX (v := 8) q8 d_BM_count_1 (by decide) (by decide) (by decide +kernel) (by decide) ?_
    refine g_aload_n (pc := 131) hX d_BM_count_131 rfl 0 rfl ?_
    obtain ⟨f18, h⟩ := h
    refine g_getR (pc := 132) hX fl_BM_27 rfl f18 d_BM_count_132 ?_
    obtain ⟨f19, h⟩ := h
    refine g_getR (pc := 135) hX fl_BM_65 rfl f19 d_BM_count_135 ?_
    refine g_iconst (pc := 138) (v := 0) hX d_BM_count_138 (by decide) ?_
    obtain ⟨f22, h⟩ := h
    refine g_callV_I (pc := 139) hX hR f22 cf5 rfl lk_BM_167 mf_Pr_numberOf (c_Pr_numberOf _ _ _ _ h) rfl rfl rfl ⟨by decide, by decide⟩ (cat_sum _ (Nat.le_of_ble_eq_true rfl)) d_BM_count_139 (fun r21 A20 h => ?_)
    exact g_iret hX hQ h d_BM_count_142
  by_cases q9 : p1 = 9
  · have h := h.2.2.2.2.2.2.2.2.2.1 q9
    refine g_tabin (pc := 1) (tgt := 143) (off := 142) hX (v := 9) q9 d_BM_count_1 (by decide) (by decide) (by decide +kernel) (by decide) ?_
    refine g_aload_n (pc := 143) hX d_BM_count_143 rfl 0 rfl ?_
    obtain ⟨f23, h⟩ := h
    refine g_getR (pc := 144) hX fl_BM_27 rfl f23 d_BM_count_144 ?_
    obtain ⟨f24, h⟩ := h
    refine g_getR (pc := 147) hX fl_BM_65 rfl f24 d_BM_count_147 ?_
    refine g_aload_n (pc := 150) hX d_BM_count_150 rfl 0 rfl ?_
    refine g_getR (pc := 151) hX fl_BM_27 rfl f23 d_BM_count_151 ?_
    refine g_getR (pc := 154) hX fl_BM_65 rfl f24 d_BM_count_154 ?_
    obtain ⟨f25, h⟩ := h
    refine g_getI (pc := 157) hX fl_BM_83 rfl f25 d_BM_count_157 ?_
    refine g_iconst (pc := 160) (v := 1) hX d_BM_count_160 (by decide) ?_
    refine g_isub (pc := 161) hX d_BM_count_161 ?_
    refine g_callV_I (pc := 162) hX hR f25 cf5 rfl lk_BM_167 mf_Pr_numberOf (c_Pr_numberOf _ _ _ _ h) rfl rfl rfl ⟨by decide, by decide⟩ (cat_sum _ (Nat.le_of_ble_eq_true rfl)) d_BM_count_162 (fun r27 A26 h => ?_)
    exact g_iret hX hQ h d_BM_count_165
  have h := h.2.2.2.2.2.2.2.2.2.2 q0 q1 q2 q3 q4 q5 q6 q7 q8 q9
  refine g_tabout (pc := 1) (tgt := 166) hX (vs := [(0 : Int32), (1 : Int32), (2 : Int32), (3 : Int32), (4 : Int32), (5 : Int32), (6 : Int32), (7 : Int32), (8 : Int32), (9 : Int32)]) (List.forall_mem_cons.mpr ⟨q0, List.forall_mem_cons.mpr ⟨q1, List.forall_mem_cons.mpr ⟨q2, List.forall_mem_cons.mpr ⟨q3, List.forall_mem_cons.mpr ⟨q4, List.forall_mem_cons.mpr ⟨q5, List.forall_mem_cons.mpr ⟨q6, List.forall_mem_cons.mpr ⟨q7, List.forall_mem_cons.mpr ⟨q8, List.forall_mem_cons.mpr ⟨q9, fun _ h9 => absurd h9 List.not_mem_nil⟩⟩⟩⟩⟩⟩⟩⟩⟩⟩) d_BM_count_1 (by decide +kernel) (by decide) ?_
  refine g_iconst (pc := 166) (v := (-1)) hX d_BM_count_166 (by decide) ?_
  exact g_iret hX hQ h d_BM_count_167
def wp_BM_isDigit (p0 : Int32) (A : Mem) (K : Bool → Mem → Prop) : Prop := ((p0 < 48 → K false A) ∧ (¬ p0 < 48 → ((57 < p0 → K false A) ∧ (¬ 57 < p0 → K true A))))
set_option maxRecDepth 100000 in
set_option maxHeartbeats 4000000 in
theorem c_BM_isDigit (p0 : Int32) (A : Mem) (K : Bool → Mem → Prop) (h : wp_BM_isDigit p0 A K) : CtZ y_BM_isDigit prog_1_method_13_code 1 0 0 (fun E => [.int (p0)]) A K := by
  refine ctZ_of "BasicMachine" (by decide) rfl (fun E => [(0, .int (p0))]) (fun E => by simp [lg_sl, cr_cat, ca_i, ca_l, ca_d]) (fun E => by simp [lv_args, cr_cat, ca_i, ca_l, ca_d]) (fun X E hX hR hN hQ => ?_)
  unfold wp_BM_isDigit at h
  refine g_iload_n (pc := 0) hX d_BM_isDigit_0 rfl 0 rfl ?_
  refine g_bipush (pc := 1) (v := 48) hX d_BM_isDigit_1 (by decide) ?_
  refine g_icmp_lt (pc := 3) (tgt := 16) hX d_BM_isDigit_3 (by decide) (fun q => ?_) (fun q => ?_)
  · have h := h.1 q
    refine g_iconst (pc := 16) (v := 0) hX d_BM_isDigit_16 (by decide) ?_
    exact g_zret hX hQ false rfl h d_BM_isDigit_17
  · have h := h.2 q
    refine g_iload_n (pc := 6) hX d_BM_isDigit_6 rfl 0 rfl ?_
    refine g_bipush (pc := 7) (v := 57) hX d_BM_isDigit_7 (by decide) ?_
    refine g_icmp_gt (pc := 9) (tgt := 16) hX d_BM_isDigit_9 (by decide) (fun q => ?_) (fun q => ?_)
    · have h := h.1 q
      refine g_iconst (pc := 16) (v := 0) hX d_BM_isDigit_16 (by decide) ?_
      exact g_zret hX hQ false rfl h d_BM_isDigit_17
    · have h := h.2 q
      refine g_iconst (pc := 12) (v := 1) hX d_BM_isDigit_12 (by decide) ?_
      refine g_goto (pc := 13) (tgt := 17) hX d_BM_isDigit_13 (by decide) ?_
      exact g_zret hX hQ true rfl h d_BM_isDigit_17
def wp_BM_isMatrix (p0 : Int32) (A : Mem) (K : Bool → Mem → Prop) : Prop := ((p0 < 80 → K false A) ∧ (¬ p0 < 80 → ((82 < p0 → K false A) ∧ (¬ 82 < p0 → K true A))))
set_option maxRecDepth 100000 in
set_option maxHeartbeats 4000000 in
theorem c_BM_isMatrix (p0 : Int32) (A : Mem) (K : Bool → Mem → Prop) (h : wp_BM_isMatrix p0 A K) : CtZ y_BM_isMatrix prog_1_method_14_code 1 0 0 (fun E => [.int (p0)]) A K := by
  refine ctZ_of "BasicMachine" (by decide) rfl (fun E => [(0, .int (p0))]) (fun E => by simp [lg_sl, cr_cat, ca_i, ca_l, ca_d]) (fun E => by simp [lv_args, cr_cat, ca_i, ca_l, ca_d]) (fun X E hX hR hN hQ => ?_)
  unfold wp_BM_isMatrix at h
  refine g_iload_n (pc := 0) hX d_BM_isMatrix_0 rfl 0 rfl ?_
  refine g_bipush (pc := 1) (v := 80) hX d_BM_isMatrix_1 (by decide) ?_
  refine g_icmp_lt (pc := 3) (tgt := 16) hX d_BM_isMatrix_3 (by decide) (fun q => ?_) (fun q => ?_)
  · have h := h.1 q
    refine g_iconst (pc := 16) (v := 0) hX d_BM_isMatrix_16 (by decide) ?_
    exact g_zret hX hQ false rfl h d_BM_isMatrix_17
  · have h := h.2 q
    refine g_iload_n (pc := 6) hX d_BM_isMatrix_6 rfl 0 rfl ?_
    refine g_bipush (pc := 7) (v := 82) hX d_BM_isMatrix_7 (by decide) ?_
    refine g_icmp_gt (pc := 9) (tgt := 16) hX d_BM_isMatrix_9 (by decide) (fun q => ?_) (fun q => ?_)
    · have h := h.1 q
      refine g_iconst (pc := 16) (v := 0) hX d_BM_isMatrix_16 (by decide) ?_
      exact g_zret hX hQ false rfl h d_BM_isMatrix_17
    · have h := h.2 q
      refine g_iconst (pc := 12) (v := 1) hX d_BM_isMatrix_12 (by decide) ?_
      refine g_goto (pc := 13) (tgt := 17) hX d_BM_isMatrix_13 (by decide) ?_
      exact g_zret hX hQ true rfl h d_BM_isMatrix_17
def wp_BM_isVariable (p0 : Int32) (A : Mem) (K : Bool → Mem → Prop) : Prop := ((p0 < 65 → K false A) ∧ (¬ p0 < 65 → ((90 < p0 → K false A) ∧ (¬ 90 < p0 → ((p0 < 80 → K true A) ∧ (¬ p0 < 80 → ((p0 ≤ 82 → K false A) ∧ (¬ p0 ≤ 82 → K true A))))))))
set_option maxRecDepth 100000 in
set_option maxHeartbeats 4000000 in
theorem c_BM_isVariable (p0 : Int32) (A : Mem) (K : Bool → Mem → Prop) (h : wp_BM_isVariable p0 A K) : CtZ y_BM_isVariable prog_1_method_15_code 1 0 0 (fun E => [.int (p0)]) A K := by
  refine ctZ_of "BasicMachine" (by decide) rfl (fun E => [(0, .int (p0))]) (fun E => by simp [lg_sl, cr_cat, ca_i, ca_l, ca_d]) (fun E => by simp [lv_args, cr_cat, ca_i, ca_l, ca_d]) (fun X E hX hR hN hQ => ?_)
  unfold wp_BM_isVariable at h
  refine g_iload_n (pc := 0) hX d_BM_isVariable_0 rfl 0 rfl ?_
  refine g_bipush (pc := 1) (v := 65) hX d_BM_isVariable_1 (by decide) ?_
  refine g_icmp_lt (pc := 3) (tgt := 28) hX d_BM_isVariable_3 (by decide) (fun q => ?_) (fun q => ?_)
  · have h := h.1 q
    refine g_iconst (pc := 28) (v := 0) hX d_BM_isVariable_28 (by decide) ?_
    exact g_zret hX hQ false rfl h d_BM_isVariable_29
  · have h := h.2 q
    refine g_iload_n (pc := 6) hX d_BM_isVariable_6 rfl 0 rfl ?_
    refine g_bipush (pc := 7) (v := 90) hX d_BM_isVariable_7 (by decide) ?_
    refine g_icmp_gt (pc := 9) (tgt := 28) hX d_BM_isVariable_9 (by decide) (fun q => ?_) (fun q => ?_)
    · have h := h.1 q
      refine g_iconst (pc := 28) (v := 0) hX d_BM_isVariable_28 (by decide) ?_
      exact g_zret hX hQ false rfl h d_BM_isVariable_29
    · have h := h.2 q
      refine g_iload_n (pc := 12) hX d_BM_isVariable_12 rfl 0 rfl ?_
      refine g_bipush (pc := 13) (v := 80) hX d_BM_isVariable_13 (by decide) ?_
      refine g_icmp_lt (pc := 15) (tgt := 24) hX d_BM_isVariable_15 (by decide) (fun q => ?_) (fun q => ?_)
      · have h := h.1 q
        refine g_iconst (pc := 24) (v := 1) hX d_BM_isVariable_24 (by decide) ?_
        refine g_goto (pc := 25) (tgt := 29) hX d_BM_isVariable_25 (by decide) ?_
        exact g_zret hX hQ true rfl h d_BM_isVariable_29
      · have h := h.2 q
        refine g_iload_n (pc := 18) hX d_BM_isVariable_18 rfl 0 rfl ?_
        refine g_bipush (pc := 19) (v := 82) hX d_BM_isVariable_19 (by decide) ?_
        refine g_icmp_le (pc := 21) (tgt := 28) hX d_BM_isVariable_21 (by decide) (fun q => ?_) (fun q => ?_)
        · have h := h.1 q
          refine g_iconst (pc := 28) (v := 0) hX d_BM_isVariable_28 (by decide) ?_
          exact g_zret hX hQ false rfl h d_BM_isVariable_29
        · have h := h.2 q
          refine g_iconst (pc := 24) (v := 1) hX d_BM_isVariable_24 (by decide) ?_
          refine g_goto (pc := 25) (tgt := 29) hX d_BM_isVariable_25 (by decide) ?_
          exact g_zret hX hQ true rfl h d_BM_isVariable_29
def wp_BM_isFunction (p0 : Int32) (A : Mem) (K : Bool → Mem → Prop) : Prop := ((p0 < 65 → K false A) ∧ (¬ p0 < 65 → ((67 < p0 → K false A) ∧ (¬ 67 < p0 → K true A))))
set_option maxRecDepth 100000 in
set_option maxHeartbeats 4000000 in
theorem c_BM_isFunction (p0 : Int32) (A : Mem) (K : Bool → Mem → Prop) (h : wp_BM_isFunction p0 A K) : CtZ y_BM_isFunction prog_1_method_16_code 1 0 0 (fun E => [.int (p0)]) A K := by
  refine ctZ_of "BasicMachine" (by decide) rfl (fun E => [(0, .int (p0))]) (fun E => by simp [lg_sl, cr_cat, ca_i, ca_l, ca_d]) (fun E => by simp [lv_args, cr_cat, ca_i, ca_l, ca_d]) (fun X E hX hR hN hQ => ?_)
  unfold wp_BM_isFunction at h
  refine g_iload_n (pc := 0) hX d_BM_isFunction_0 rfl 0 rfl ?_
  refine g_bipush (pc := 1) (v := 65) hX d_BM_isFunction_1 (by decide) ?_
  refine g_icmp_lt (pc := 3) (tgt := 16) hX d_BM_isFunction_3 (by decide) (fun q => ?_) (fun q => ?_)
  · have h := h.1 q
    refine g_iconst (pc := 16) (v := 0) hX d_BM_isFunction_16 (by decide) ?_
    exact g_zret hX hQ false rfl h d_BM_isFunction_17
  · have h := h.2 q
    refine g_iload_n (pc := 6) hX d_BM_isFunction_6 rfl 0 rfl ?_
    refine g_bipush (pc := 7) (v := 67) hX d_BM_isFunction_7 (by decide) ?_
    refine g_icmp_gt (pc := 9) (tgt := 16) hX d_BM_isFunction_9 (by decide) (fun q => ?_) (fun q => ?_)
    · have h := h.1 q
      refine g_iconst (pc := 16) (v := 0) hX d_BM_isFunction_16 (by decide) ?_
      exact g_zret hX hQ false rfl h d_BM_isFunction_17
    · have h := h.2 q
      refine g_iconst (pc := 12) (v := 1) hX d_BM_isFunction_12 (by decide) ?_
      refine g_goto (pc := 13) (tgt := 17) hX d_BM_isFunction_13 (by decide) ?_
      exact g_zret hX hQ true rfl h d_BM_isFunction_17
def wp_JS_charAt (o : Nat) (p1 : Int32) (A : Mem) (K : Int32 → Mem → Prop) : Prop := isS o ∧ wp_JS_isLatin1 o A (fun (r2 : Bool) (A1 : Mem) => ((r2 = false → False) ∧ (r2 = true → wp_JL_charAt (o + 100) p1 A1 (fun (r5 : Int32) (A4 : Mem) => narrow .char (.int r5) = .int r5 ∧ K r5 A4))))
set_option maxRecDepth 100000 in
set_option maxHeartbeats 4000000 in
theorem c_JS_charAt (o : Nat) (p1 : Int32) (A : Mem) (K : Int32 → Mem → Prop) (h : wp_JS_charAt o p1 A K) : CtN y_JS_charAt prog_23_method_56_code 2 .char 3 64 (fun E => [cr E o, .int (p1)]) A K := by
  refine ctN_of "java/lang/String" (by decide) rfl (fun E => [(0, cr E o), (1, .int (p1))]) (fun E => by simp [lg_sl, cr_cat, ca_i, ca_l, ca_d]) (fun E => by simp [lv_args, cr_cat, ca_i, ca_l, ca_d]) (fun X E hX hR hN hQ => ?_)
  unfold wp_JS_charAt at h
  refine g_aload_n (pc := 0) hX d_JS_charAt_0 rfl 0 rfl ?_
  obtain ⟨f3, h⟩ := h
  refine g_callVS_Z (pc := 1) hX hR f3 rfl lk_JS_492 mf_JS_isLatin1 (c_JS_isLatin1 _ _ _ h) rfl rfl rfl ⟨by decide, by decide⟩ (cat_sum _ (Nat.le_of_ble_eq_true rfl)) d_JS_charAt_1 (fun r2 A1 h => ?_)
  refine g_ifB_eq (pc := 4) (tgt := 16) hX d_JS_charAt_4 (by decide) (fun q => ?_) (fun q => ?_)
  · have h := h.1 q
    exact h.elim
  · have h := h.2 q
    refine g_aload_n (pc := 7) hX d_JS_charAt_7 rfl 0 rfl ?_
    refine g_getSV (pc := 8) hX f3 ls_JS_9 d_JS_charAt_8 ?_
    refine g_iload_n (pc := 11) hX d_JS_charAt_11 rfl 1 rfl ?_
    refine g_callS_N (pc := 12) hX hR lk_JS_495 mf_JL_charAt (c_JL_charAt _ _ _ _ h) rfl rfl rfl ⟨by decide, by decide⟩ (cat_sum _ (Nat.le_of_ble_eq_true rfl)) d_JS_charAt_12 (fun r5 A4 h => ?_)
    obtain ⟨f6, h⟩ := h
    exact g_nret hX hQ f6 h d_JS_charAt_15
def wp_Li_startOf (o : Nat) (p1 : Int32) (A : Mem) (K : Int32 → Mem → Prop) : Prop := kd o = 3 ∧ wp_Li_endOf o (p1 - 1) A (fun (r2 : Int32) (A1 : Mem) => K r2 A1)
set_option maxRecDepth 100000 in
set_option maxHeartbeats 4000000 in
theorem c_Li_startOf (o : Nat) (p1 : Int32) (A : Mem) (K : Int32 → Mem → Prop) (h : wp_Li_startOf o p1 A K) : CtI y_Li_startOf prog_6_method_7_code 2 1 21 (fun E => [cr E o, .int (p1)]) A K := by
  refine ctI_of "BasicMachine$Line" (by decide) rfl (fun E => [(0, cr E o), (1, .int (p1))]) (fun E => by simp [lg_sl, cr_cat, ca_i, ca_l, ca_d]) (fun E => by simp [lv_args, cr_cat, ca_i, ca_l, ca_d]) (fun X E hX hR hN hQ => ?_)
  unfold wp_Li_startOf at h
  refine g_aload_n (pc := 0) hX d_Li_startOf_0 rfl 0 rfl ?_
  refine g_iload_n (pc := 1) hX d_Li_startOf_1 rfl 1 rfl ?_
  refine g_iconst (pc := 2) (v := 1) hX d_Li_startOf_2 (by decide) ?_
  refine g_isub (pc := 3) hX d_Li_startOf_3 ?_
  obtain ⟨f3, h⟩ := h
  refine g_callV_I (pc := 4) hX hR f3 cf3 rfl lk_Li_62 mf_Li_endOf (c_Li_endOf _ _ _ _ h) rfl rfl rfl ⟨by decide, by decide⟩ (cat_sum _ (Nat.le_of_ble_eq_true rfl)) d_Li_startOf_4 (fun r2 A1 h => ?_)
  exact g_iret hX hQ h d_Li_startOf_7
def wp_Ca_apply (S : Nat → Nat → Int32 → Int32 → Mem → (UInt64 → Mem → Prop) → Prop) (o : Nat) (p1 : Int32) (p2 : Int32) (p3 : Int32) (A : Mem) (K : Mem → Prop) : Prop := ((p1 = 0 → vf_n64 (FP.ddiv (FP.i2d p2) 4652007308841189376) ∧ kd o = 6 ∧ wp_Ca_push o (FP.ddiv (FP.i2d p2) 4652007308841189376) A (fun (A2 : Mem) => K A2)) ∧ (p1 = 1 → kd o = 6 ∧ wp_Ca_get o p2 A (fun (r5 : UInt64) (A4 : Mem) => wp_Ca_push o r5 A4 (fun (A7 : Mem) => K A7))) ∧ (p1 = 2 → kd o = 6 ∧ wp_Ca_matrixAt o p2 A (fun (r9 : Nat) (A8 : Mem) => wp_Ca_pushElement o r9 A8 (fun (A11 : Mem) => K A11))) ∧ (p1 = 3 → kd o = 6 ∧ wp_Ca_pop o A (fun (r13 : UInt64) (A12 : Mem) => wp_Ca_push o (FP.dneg r13) A12 (fun (A15 : Mem) => K A15))) ∧ (p1 = 4 → kd o = 6 ∧ wp_Ca_pop o A (fun (r17 : UInt64) (A16 : Mem) => wp_Ca_pop o A16 (fun (r20 : UInt64) (A19 : Mem) => vf_n64 (FP.dadd r20 r17) ∧ wp_Ca_result o (FP.dadd r20 r17) A19 (fun (r23 : UInt64) (A22 : Mem) => wp_Ca_push o r23 A22 (fun (A24 : Mem) => K A24))))) ∧ (p1 = 5 → kd o = 6 ∧ wp_Ca_pop o A (fun (r26 : UInt64) (A25 : Mem) => wp_Ca_pop o A25 (fun (r29 : UInt64) (A28 : Mem) => vf_n64 (FP.dsub r29 r26) ∧ wp_Ca_result o (FP.dsub r29 r26) A28 (fun (r32 : UInt64) (A31 : Mem) => wp_Ca_push o r32 A31 (fun (A33 : Mem) => K A33))))) ∧ (p1 = 6 → kd o = 6 ∧ wp_Ca_pop o A (fun (r35 : UInt64) (A34 : Mem) => wp_Ca_pop o A34 (fun (r38 : UInt64) (A37 : Mem) => vf_n64 (FP.dmul r38 r35) ∧ wp_Ca_result o (FP.dmul r38 r35) A37 (fun (r41 : UInt64) (A40 : Mem) => wp_Ca_push o r41 A40 (fun (A42 : Mem) => K A42))))) ∧ (p1 = 7 → kd o = 6 ∧ wp_Ca_pop o A (fun (r44 : UInt64) (A43 : Mem) => wp_Ca_pop o A43 (fun (r47 : UInt64) (A46 : Mem) => wp_Ca_quotient o r47 r44 A46 (fun (r49 : UInt64) (A48 : Mem) => wp_Ca_push o r49 A48 (fun (A50 : Mem) => K A50))))) ∧ (p1 = 8 → kd o = 6 ∧ wp_Ca_pop o A (fun (r52 : UInt64) (A51 : Mem) => wp_Ca_pop o A51 (fun (r55 : UInt64) (A54 : Mem) => wp_Ca_power o r55 r52 A54 (fun (r57 : UInt64) (A56 : Mem) => wp_Ca_push o r57 A56 (fun (A58 : Mem) => K A58))))) ∧ (p1 = 9 → kd o = 6 ∧ wp_Ca_pop o A (fun (r60 : UInt64) (A59 : Mem) => wp_Ca_sizeOf r60 A59 (fun (r63 : UInt64) (A62 : Mem) => wp_Ca_push o r63 A62 (fun (A64 : Mem) => K A64)))) ∧ (p1 = 10 → kd o = 6 ∧ wp_Ca_pop o A (fun (r66 : UInt64) (A65 : Mem) => wp_Ca_floorOf r66 A65 (fun (r69 : UInt64) (A68 : Mem) => wp_Ca_push o r69 A68 (fun (A70 : Mem) => K A70)))) ∧ (p1 = 11 → kd o = 6 ∧ wp_Ca_pop o A (fun (r72 : UInt64) (A71 : Mem) => wp_Ca_signOf r72 A71 (fun (r75 : UInt64) (A74 : Mem) => wp_Ca_push o r75 A74 (fun (A76 : Mem) => K A76)))) ∧ (p1 = 12 → kd o = 6 ∧ wp_Ca_findFunction o p2 A (fun (A77 : Mem) => K A77)) ∧ (p1 = 13 → kd o = 6 ∧ wp_Ca_functionAt o p2 A (fun (r80 : Nat) (A79 : Mem) => wp_Ca_callFunction S o r80 p3 A79 (fun (A82 : Mem) => K A82))) ∧ (¬ p1 = 0 → ¬ p1 = 1 → ¬ p1 = 2 → ¬ p1 = 3 → ¬ p1 = 4 → ¬ p1 = 5 → ¬ p1 = 6 → ¬ p1 = 7 → ¬ p1 = 8 → ¬ p1 = 9 → ¬ p1 = 10 → ¬ p1 = 11 → ¬ p1 = 12 → ¬ p1 = 13 → K A))
set_option maxRecDepth 100000 in
set_option maxHeartbeats 4000000 in
theorem c_Ca_apply {fr lo : Nat} {S : Nat → Nat → Int32 → Int32 → Mem → (UInt64 → Mem → Prop) → Prop} (hS : ∀ (o : Nat) (p1 : Nat) (p2 : Int32) (p3 : Int32) (A : Mem) (K : UInt64 → Mem → Prop), S o p1 p2 p3 A K → CtD y_Ca_evaluate prog_3_method_14_code 6 fr lo (fun E => [cr E o, cr E p1, .int (p2), .int (p3)]) A K) (o : Nat) (p1 : Int32) (p2 : Int32) (p3 : Int32) (A : Mem) (K : Mem → Prop) (h : wp_Ca_apply S o p1 p2 p3 A K) : CtV y_Ca_apply prog_3_method_15_code 6 (fr + 2) (lo + 53) (fun E => [cr E o, .int (p1), .int (p2), .int (p3)]) A K := by
  refine ctV_of "BasicMachine$Calculator" (by decide) rfl (fun E => [(0, cr E o), (1, .int (p1)), (2, .int (p2)), (3, .int (p3))]) (fun E => by simp [lg_sl, cr_cat, ca_i, ca_l, ca_d]) (fun E => by simp [lv_args, cr_cat, ca_i, ca_l, ca_d]) (fun X E hX hR hN hQ => ?_)
  unfold wp_Ca_apply at h
  refine g_iload_n (pc := 0) hX d_Ca_apply_0 rfl 1 rfl ?_
  by_cases q0 : p1 = 0
  · have h := h.1 q0
    refine g_tabin (pc := 1) (tgt := 72) (off := 71) hX (v := 0) q0 d_Ca_apply_1 (by decide) (by decide) (by decide +kernel) (by decide) ?_
    refine g_aload_n (pc := 72) hX d_Ca_apply_72 rfl 0 rfl ?_
    refine g_iload_n (pc := 73) hX d_Ca_apply_73 rfl 2 rfl ?_
    refine g_i2d (pc := 74) hX d_Ca_apply_74 ?_
    refine g_ldc2d (pc := 75) hX d_Ca_apply_75 cn_Ca_100 ?_
    obtain ⟨f1, h⟩ := h
    refine g_ddiv (pc := 78) hX d_Ca_apply_78 f1 ?_
    obtain ⟨f3, h⟩ := h
    refine g_callV_V (pc := 79) hX hR f3 cf6 rfl lk_Ca_102 mf_Ca_push (c_Ca_push _ _ _ _ h) rfl rfl rfl ⟨by omega, by omega⟩ (cat_sum _ (Nat.le_of_ble_eq_true rfl)) d_Ca_apply_79 (fun A2 h => ?_)
    refine g_goto (pc := 82) (tgt := 302) hX d_Ca_apply_82 (by decide) ?_
    exact g_vret hX hQ h d_Ca_apply_302
  by_cases q1 : p1 = 1
  · have h := h.2.1 q1
    refine g_tabin (pc := 1) (tgt := 85) (off := 84) hX (v := 1) q1 d_Ca_apply_1 (by decide) (by decide) (by decide +kernel) (by decide) ?_
    refine g_aload_n (pc := 85) hX d_Ca_apply_85 rfl 0 rfl ?_
    refine g_aload_n (pc := 86) hX d_Ca_apply_86 rfl 0 rfl ?_
    refine g_iload_n (pc := 87) hX d_Ca_apply_87 rfl 2 rfl ?_
    obtain ⟨f6, h⟩ := h
    refine g_callV_D (pc := 88) hX hR f6 cf6 rfl lk_Ca_106 mf_Ca_get (c_Ca_get _ _ _ _ h) rfl rfl rfl ⟨by omega, by omega⟩ (cat_sum _ (Nat.le_of_ble_eq_true rfl)) d_Ca_apply_88 (fun r5 A4 h => ?_)
    refine g_callV_V (pc := 91) hX hR f6 cf6 rfl lk_Ca_102 mf_Ca_push (c_Ca_push _ _ _ _ h) rfl rfl rfl ⟨by omega, by omega⟩ (cat_sum _ (Nat.le_of_ble_eq_true rfl)) d_Ca_apply_91 (fun A7 h => ?_)
    refine g_goto (pc := 94) (tgt := 302) hX d_Ca_apply_94 (by decide) ?_
    exact g_vret hX hQ h d_Ca_apply_302
  by_cases q2 : p1 = 2
  · have h := h.2.2.1 q2
    refine g_tabin (pc := 1) (tgt := 97) (off := 96) hX (v := 2) q2 d_Ca_apply_1 (by decide) (by decide) (by decide +kernel) (by decide) ?_
    refine g_aload_n (pc := 97) hX d_Ca_apply_97 rfl 0 rfl ?_
    refine g_aload_n (pc := 98) hX d_Ca_apply_98 rfl 0 rfl ?_
    refine g_iload_n (pc := 99) hX d_Ca_apply_99 rfl 2 rfl ?_
    obtain ⟨f10, h⟩ := h
    refine g_callV_R (pc := 100) hX hR f10 cf6 rfl lk_Ca_110 mf_Ca_matrixAt (c_Ca_matrixAt _ _ _ _ h) rfl rfl rfl ⟨by omega, by omega⟩ (cat_sum _ (Nat.le_of_ble_eq_true rfl)) d_Ca_apply_100 (fun r9 A8 h => ?_)
    refine g_callV_V (pc := 103) hX hR f10 cf6 rfl lk_Ca_114 mf_Ca_pushElement (c_Ca_pushElement _ _ _ _ h) rfl rfl rfl ⟨by omega, by omega⟩ (cat_sum _ (Nat.le_of_ble_eq_true rfl)) d_Ca_apply_103 (fun A11 h => ?_)
    refine g_goto (pc := 106) (tgt := 302) hX d_Ca_apply_106 (by decide) ?_
    exact g_vret hX hQ h d_Ca_apply_302
  by_cases q3 : p1 = 3
  · have h := h.2.2.2.1 q3
    refine g_tabin (pc := 1) (tgt := 109) (off := 108) hX (v := 3) q3 d_Ca_apply_1 (by decide) (by decide) (by decide +kernel) (by decide) ?_
    refine g_aload_n (pc := 109) hX d_Ca_apply_109 rfl 0 rfl ?_
    refine g_aload_n (pc := 110) hX d_Ca_apply_110 rfl 0 rfl ?_
    obtain ⟨f14, h⟩ := h
    refine g_callV_D (pc := 111) hX hR f14 cf6 rfl lk_Ca_96 mf_Ca_pop (c_Ca_pop _ _ _ h) rfl rfl rfl ⟨by omega, by omega⟩ (cat_sum _ (Nat.le_of_ble_eq_true rfl)) d_Ca_apply_111 (fun r13 A12 h => ?_)
    refine g_dneg (pc := 114) hX d_Ca_apply_114 ?_
    refine g_callV_V (pc := 115) hX hR f14 cf6 rfl lk_Ca_102 mf_Ca_push (c_Ca_push _ _ _ _ h) rfl rfl rfl ⟨by omega, by omega⟩ (cat_sum _ (Nat.le_of_ble_eq_true rfl)) d_Ca_apply_115 (fun A15 h => ?_)
    refine g_goto (pc := 118) (tgt := 302) hX d_Ca_apply_118 (by decide) ?_
    exact g_vret hX hQ h d_Ca_apply_302
  by_cases q4 : p1 = 4
  · have h := h.2.2.2.2.1 q4
    refine g_tabin (pc := 1) (tgt := 184) (off := 183) hX (v := 4) q4 d_Ca_apply_1 (by decide) (by decide) (by decide +kernel) (by decide) ?_
    refine g_aload_n (pc := 184) hX d_Ca_apply_184 rfl 0 rfl ?_
    obtain ⟨f18, h⟩ := h
    refine g_callV_D (pc := 185) hX hR f18 cf6 rfl lk_Ca_96 mf_Ca_pop (c_Ca_pop _ _ _ h) rfl rfl rfl ⟨by omega, by omega⟩ (cat_sum _ (Nat.le_of_ble_eq_true rfl)) d_Ca_apply_185 (fun r17 A16 h => ?_)
    refine g_dstore (pc := 188) (lv0 := [(3, .int (p3)), (0, cr E o), (1, .int (p1)), (2, .int (p2))]) hX d_Ca_apply_188 (by rw [hN]; decide) (g_st2b (ks := [3, 0, 1, 2]) rfl rfl rfl rfl rfl) ?_
    refine g_aload_n (pc := 190) hX d_Ca_apply_190 rfl 2 rfl ?_
    refine g_aload_n (pc := 191) hX d_Ca_apply_191 rfl 2 rfl ?_
    refine g_aload_n (pc := 192) hX d_Ca_apply_192 rfl 2 rfl ?_
    refine g_callV_D (pc := 193) hX hR f18 cf6 rfl lk_Ca_96 mf_Ca_pop (c_Ca_pop _ _ _ h) rfl rfl rfl ⟨by omega, by omega⟩ (cat_sum _ (Nat.le_of_ble_eq_true rfl)) d_Ca_apply_193 (fun r20 A19 h => ?_)
    refine g_dload (pc := 196) hX d_Ca_apply_196 0 rfl ?_
    obtain ⟨f21, h⟩ := h
    refine g_dadd (pc := 198) hX d_Ca_apply_198 f21 ?_
    refine g_callV_D (pc := 199) hX hR f18 cf6 rfl lk_Ca_140 mf_Ca_result (c_Ca_result _ _ _ _ h) rfl rfl rfl ⟨by omega, by omega⟩ (cat_sum _ (Nat.le_of_ble_eq_true rfl)) d_Ca_apply_199 (fun r23 A22 h => ?_)
    refine g_callV_V (pc := 202) hX hR f18 cf6 rfl lk_Ca_102 mf_Ca_push (c_Ca_push _ _ _ _ h) rfl rfl rfl ⟨by omega, by omega⟩ (cat_sum _ (Nat.le_of_ble_eq_true rfl)) d_Ca_apply_202 (fun A24 h => ?_)
    refine g_goto (pc := 205) (tgt := 302) hX d_Ca_apply_205 (by decide) ?_
    exact g_vret hX hQ h d_Ca_apply_302
  by_cases q5 : p1 = 5
  · have h := h.2.2.2.2.2.1 q5
    refine g_tabin (pc := 1) (tgt := 208) (off := 207) hX (v := 5) q5 d_Ca_apply_1 (by decide) (by decide) (by decide +kernel) (by decide) ?_
    refine g_aload_n (pc := 208) hX d_Ca_apply_208 rfl 0 rfl ?_
    obtain ⟨f27, h⟩ := h
    refine g_callV_D (pc := 209) hX hR f27 cf6 rfl lk_Ca_96 mf_Ca_pop (c_Ca_pop _ _ _ h) rfl rfl rfl ⟨by omega, by omega⟩ (cat_sum _ (Nat.le_of_ble_eq_true rfl)) d_Ca_apply_209 (fun r26 A25 h => ?_)
    refine g_dstore (pc := 212) (lv0 := [(3, .int (p3)), (0, cr E o), (1, .int (p1)), (2, .int (p2))]) hX d_Ca_apply_212 (by rw [hN]; decide) (g_st2b (ks := [3, 0, 1, 2]) rfl rfl rfl rfl rfl) ?_
    refine g_aload_n (pc := 214) hX d_Ca_apply_214 rfl 2 rfl ?_
    refine g_aload_n (pc := 215) hX d_Ca_apply_215 rfl 2 rfl ?_
    refine g_aload_n (pc := 216) hX d_Ca_apply_216 rfl 2 rfl ?_
    refine g_callV_D (pc := 217) hX hR f27 cf6 rfl lk_Ca_96 mf_Ca_pop (c_Ca_pop _ _ _ h) rfl rfl rfl ⟨by omega, by omega⟩ (cat_sum _ (Nat.le_of_ble_eq_true rfl)) d_Ca_apply_217 (fun r29 A28 h => ?_)
    refine g_dload (pc := 220) hX d_Ca_apply_220 0 rfl ?_
    obtain ⟨f30, h⟩ := h
    refine g_dsub (pc := 222) hX d_Ca_apply_222 f30 ?_
    refine g_callV_D (pc := 223) hX hR f27 cf6 rfl lk_Ca_140 mf_Ca_result (c_Ca_result _ _ _ _ h) rfl rfl rfl ⟨by omega, by omega⟩ (cat_sum _ (Nat.le_of_ble_eq_true rfl)) d_Ca_apply_223 (fun r32 A31 h => ?_)
    refine g_callV_V (pc := 226) hX hR f27 cf6 rfl lk_Ca_102 mf_Ca_push (c_Ca_push _ _ _ _ h) rfl rfl rfl ⟨by omega, by omega⟩ (cat_sum _ (Nat.le_of_ble_eq_true rfl)) d_Ca_apply_226 (fun A33 h => ?_)
    refine g_goto (pc := 229) (tgt := 302) hX d_Ca_apply_229 (by decide) ?_
    exact g_vret hX hQ h d_Ca_apply_302
  by_cases q6 : p1 = 6
  · have h := h.2.2.2.2.2.2.1 q6
    refine g_tabin (pc := 1) (tgt := 232) (off := 231) hX (v := 6) q6 d_Ca_apply_1 (by decide) (by decide) (by decide +kernel) (by decide) ?_
    refine g_aload_n (pc := 232) hX d_Ca_apply_232 rfl 0 rfl ?_
    obtain ⟨f36, h⟩ := h
    refine g_callV_D (pc := 233) hX hR f36 cf6 rfl lk_Ca_96 mf_Ca_pop (c_Ca_pop _ _ _ h) rfl rfl rfl ⟨by omega, by omega⟩ (cat_sum _ (Nat.le_of_ble_eq_true rfl)) d_Ca_apply_233 (fun r35 A34 h => ?_)
    refine g_dstore (pc := 236) (lv0 := [(3, .int (p3)), (0, cr E o), (1, .int (p1)), (2, .int (p2))]) hX d_Ca_apply_236 (by rw [hN]; decide) (g_st2b (ks := [3, 0, 1, 2]) rfl rfl rfl rfl rfl) ?_
    refine g_aload_n (pc := 238) hX d_Ca_apply_238 rfl 2 rfl ?_
    refine g_aload_n (pc := 239) hX d_Ca_apply_239 rfl 2 rfl ?_
    refine g_aload_n (pc := 240) hX d_Ca_apply_240 rfl 2 rfl ?_
    refine g_callV_D (pc := 241) hX hR f36 cf6 rfl lk_Ca_96 mf_Ca_pop (c_Ca_pop _ _ _ h) rfl rfl rfl ⟨by omega, by omega⟩ (cat_sum _ (Nat.le_of_ble_eq_true rfl)) d_Ca_apply_241 (fun r38 A37 h => ?_)
    refine g_dload (pc := 244) hX d_Ca_apply_244 0 rfl ?_
    obtain ⟨f39, h⟩ := h
    refine g_dmul (pc := 246) hX d_Ca_apply_246 f39 ?_
    refine g_callV_D (pc := 247) hX hR f36 cf6 rfl lk_Ca_140 mf_Ca_result (c_Ca_result _ _ _ _ h) rfl rfl rfl ⟨by omega, by omega⟩ (cat_sum _ (Nat.le_of_ble_eq_true rfl)) d_Ca_apply_247 (fun r41 A40 h => ?_)
    refine g_callV_V (pc := 250) hX hR f36 cf6 rfl lk_Ca_102 mf_Ca_push (c_Ca_push _ _ _ _ h) rfl rfl rfl ⟨by omega, by omega⟩ (cat_sum _ (Nat.le_of_ble_eq_true rfl)) d_Ca_apply_250 (fun A42 h => ?_)
    refine g_goto (pc := 253) (tgt := 302) hX d_Ca_apply_253 (by decide) ?_
    exact g_vret hX hQ h d_Ca_apply_302
  by_cases q7 : p1 = 7
  · have h := h.2.2.2.2.2.2.2.1 q7
    refine g_tabin (pc := 1) (tgt := 256) (off := 255) hX (v := 7) q7 d_Ca_apply_1 (by decide) (by decide) (by decide +kernel) (by decide) ?_
    refine g_aload_n (pc := 256) hX d_Ca_apply_256 rfl 0 rfl ?_
    obtain ⟨f45, h⟩ := h
    refine g_callV_D (pc := 257) hX hR f45 cf6 rfl lk_Ca_96 mf_Ca_pop (c_Ca_pop _ _ _ h) rfl rfl rfl ⟨by omega, by omega⟩ (cat_sum _ (Nat.le_of_ble_eq_true rfl)) d_Ca_apply_257 (fun r44 A43 h => ?_)
    refine g_dstore (pc := 260) (lv0 := [(3, .int (p3)), (0, cr E o), (1, .int (p1)), (2, .int (p2))]) hX d_Ca_apply_260 (by rw [hN]; decide) (g_st2b (ks := [3, 0, 1, 2]) rfl rfl rfl rfl rfl) ?_
    refine g_aload_n (pc := 262) hX d_Ca_apply_262 rfl 2 rfl ?_
    refine g_aload_n (pc := 263) hX d_Ca_apply_263 rfl 2 rfl ?_
    refine g_aload_n (pc := 264) hX d_Ca_apply_264 rfl 2 rfl ?_
    refine g_callV_D (pc := 265) hX hR f45 cf6 rfl lk_Ca_96 mf_Ca_pop (c_Ca_pop _ _ _ h) rfl rfl rfl ⟨by omega, by omega⟩ (cat_sum _ (Nat.le_of_ble_eq_true rfl)) d_Ca_apply_265 (fun r47 A46 h => ?_)
    refine g_dload (pc := 268) hX d_Ca_apply_268 0 rfl ?_
    refine g_callV_D (pc := 270) hX hR f45 cf6 rfl lk_Ca_143 mf_Ca_quotient (c_Ca_quotient _ _ _ _ _ h) rfl rfl rfl ⟨by omega, by omega⟩ (cat_sum _ (Nat.le_of_ble_eq_true rfl)) d_Ca_apply_270 (fun r49 A48 h => ?_)
    refine g_callV_V (pc := 273) hX hR f45 cf6 rfl lk_Ca_102 mf_Ca_push (c_Ca_push _ _ _ _ h) rfl rfl rfl ⟨by omega, by omega⟩ (cat_sum _ (Nat.le_of_ble_eq_true rfl)) d_Ca_apply_273 (fun A50 h => ?_)
    refine g_goto (pc := 276) (tgt := 302) hX d_Ca_apply_276 (by decide) ?_
    exact g_vret hX hQ h d_Ca_apply_302
  by_cases q8 : p1 = 8
  · have h := h.2.2.2.2.2.2.2.2.1 q8
    refine g_tabin (pc := 1) (tgt := 279) (off := 278) hX (v := 8) q8 d_Ca_apply_1 (by decide) (by decide) (by decide +kernel) (by decide) ?_
    refine g_aload_n (pc := 279) hX d_Ca_apply_279 rfl 0 rfl ?_
    obtain ⟨f53, h⟩ := h
    refine g_callV_D (pc := 280) hX hR f53 cf6 rfl lk_Ca_96 mf_Ca_pop (c_Ca_pop _ _ _ h) rfl rfl rfl ⟨by omega, by omega⟩ (cat_sum _ (Nat.le_of_ble_eq_true rfl)) d_Ca_apply_280 (fun r52 A51 h => ?_)
    refine g_dstore (pc := 283) (lv0 := [(3, .int (p3)), (0, cr E o), (1, .int (p1)), (2, .int (p2))]) hX d_Ca_apply_283 (by rw [hN]; decide) (g_st2b (ks := [3, 0, 1, 2]) rfl rfl rfl rfl rfl) ?_
    refine g_aload_n (pc := 285) hX d_Ca_apply_285 rfl 2 rfl ?_
    refine g_aload_n (pc := 286) hX d_Ca_apply_286 rfl 2 rfl ?_
    refine g_aload_n (pc := 287) hX d_Ca_apply_287 rfl 2 rfl ?_
    refine g_callV_D (pc := 288) hX hR f53 cf6 rfl lk_Ca_96 mf_Ca_pop (c_Ca_pop _ _ _ h) rfl rfl rfl ⟨by omega, by omega⟩ (cat_sum _ (Nat.le_of_ble_eq_true rfl)) d_Ca_apply_288 (fun r55 A54 h => ?_)
    refine g_dload (pc := 291) hX d_Ca_apply_291 0 rfl ?_
    refine g_callV_D (pc := 293) hX hR f53 cf6 rfl lk_Ca_147 mf_Ca_power (c_Ca_power _ _ _ _ _ h) rfl rfl rfl ⟨by omega, by omega⟩ (cat_sum _ (Nat.le_of_ble_eq_true rfl)) d_Ca_apply_293 (fun r57 A56 h => ?_)
    refine g_callV_V (pc := 296) hX hR f53 cf6 rfl lk_Ca_102 mf_Ca_push (c_Ca_push _ _ _ _ h) rfl rfl rfl ⟨by omega, by omega⟩ (cat_sum _ (Nat.le_of_ble_eq_true rfl)) d_Ca_apply_296 (fun A58 h => ?_)
    refine g_goto (pc := 299) (tgt := 302) hX d_Ca_apply_299 (by decide) ?_
    exact g_vret hX hQ h d_Ca_apply_302
  by_cases q9 : p1 = 9
  · have h := h.2.2.2.2.2.2.2.2.2.1 q9
    refine g_tabin (pc := 1) (tgt := 121) (off := 120) hX (v := 9) q9 d_Ca_apply_1 (by decide) (by decide) (by decide +kernel) (by decide) ?_
    refine g_aload_n (pc := 121) hX d_Ca_apply_121 rfl 0 rfl ?_
    refine g_aload_n (pc := 122) hX d_Ca_apply_122 rfl 0 rfl ?_
    obtain ⟨f61, h⟩ := h
    refine g_callV_D (pc := 123) hX hR f61 cf6 rfl lk_Ca_96 mf_Ca_pop (c_Ca_pop _ _ _ h) rfl rfl rfl ⟨by omega, by omega⟩ (cat_sum _ (Nat.le_of_ble_eq_true rfl)) d_Ca_apply_123 (fun r60 A59 h => ?_)
    refine g_callS_D (pc := 126) hX hR lk_Ca_118 mf_Ca_sizeOf (c_Ca_sizeOf _ _ _ h) rfl rfl rfl ⟨by omega, by omega⟩ (cat_sum _ (Nat.le_of_ble_eq_true rfl)) d_Ca_apply_126 (fun r63 A62 h => ?_)
    refine g_callV_V (pc := 129) hX hR f61 cf6 rfl lk_Ca_102 mf_Ca_push (c_Ca_push _ _ _ _ h) rfl rfl rfl ⟨by omega, by omega⟩ (cat_sum _ (Nat.le_of_ble_eq_true rfl)) d_Ca_apply_129 (fun A64 h => ?_)
    refine g_goto (pc := 132) (tgt := 302) hX d_Ca_apply_132 (by decide) ?_
    exact g_vret hX hQ h d_Ca_apply_302
  by_cases q10 : p1 = 10
  · have h := h.2.2.2.2.2.2.2.2.2.2.1 q10
    refine g_tabin (pc := 1) (tgt := 135) (off := 134) hX (v := 10) q10 d_Ca_apply_1 (by decide) (by decide) (by decide +kernel) (by decide) ?_
    refine g_aload_n (pc := 135) hX d_Ca_apply_135 rfl 0 rfl ?_
    refine g_aload_n (pc := 136) hX d_Ca_apply_136 rfl 0 rfl ?_
    obtain ⟨f67, h⟩ := h
    refine g_callV_D (pc := 137) hX hR f67 cf6 rfl lk_Ca_96 mf_Ca_pop (c_Ca_pop _ _ _ h) rfl rfl rfl ⟨by omega, by omega⟩ (cat_sum _ (Nat.le_of_ble_eq_true rfl)) d_Ca_apply_137 (fun r66 A65 h => ?_)
    refine g_callS_D (pc := 140) hX hR lk_Ca_122 mf_Ca_floorOf (c_Ca_floorOf _ _ _ h) rfl rfl rfl ⟨by omega, by omega⟩ (cat_sum _ (Nat.le_of_ble_eq_true rfl)) d_Ca_apply_140 (fun r69 A68 h => ?_)
    refine g_callV_V (pc := 143) hX hR f67 cf6 rfl lk_Ca_102 mf_Ca_push (c_Ca_push _ _ _ _ h) rfl rfl rfl ⟨by omega, by omega⟩ (cat_sum _ (Nat.le_of_ble_eq_true rfl)) d_Ca_apply_143 (fun A70 h => ?_)
    refine g_goto (pc := 146) (tgt := 302) hX d_Ca_apply_146 (by decide) ?_
    exact g_vret hX hQ h d_Ca_apply_302
  by_cases q11 : p1 = 11
  · have h := h.2.2.2.2.2.2.2.2.2.2.2.1 q11
    refine g_tabin (pc := 1) (tgt := 149) (off := 148) hX (v := 11) q11 d_Ca_apply_1 (by decide) (by decide) (by decide +kernel) (by decide) ?_
    refine g_aload_n (pc := 149) hX d_Ca_apply_149 rfl 0 rfl ?_
    refine g_aload_n (pc := 150) hX d_Ca_apply_150 rfl 0 rfl ?_
    obtain ⟨f73, h⟩ := h
    refine g_callV_D (pc := 151) hX hR f73 cf6 rfl lk_Ca_96 mf_Ca_pop (c_Ca_pop _ _ _ h) rfl rfl rfl ⟨by omega, by omega⟩ (cat_sum _ (Nat.le_of_ble_eq_true rfl)) d_Ca_apply_151 (fun r72 A71 h => ?_)
    refine g_callS_D (pc := 154) hX hR lk_Ca_125 mf_Ca_signOf (c_Ca_signOf _ _ _ h) rfl rfl rfl ⟨by omega, by omega⟩ (cat_sum _ (Nat.le_of_ble_eq_true rfl)) d_Ca_apply_154 (fun r75 A74 h => ?_)
    refine g_callV_V (pc := 157) hX hR f73 cf6 rfl lk_Ca_102 mf_Ca_push (c_Ca_push _ _ _ _ h) rfl rfl rfl ⟨by omega, by omega⟩ (cat_sum _ (Nat.le_of_ble_eq_true rfl)) d_Ca_apply_157 (fun A76 h => ?_)
    refine g_goto (pc := 160) (tgt := 302) hX d_Ca_apply_160 (by decide) ?_
    exact g_vret hX hQ h d_Ca_apply_302
  by_cases q12 : p1 = 12
  · have h := h.2.2.2.2.2.2.2.2.2.2.2.2.1 q12
    refine g_tabin (pc := 1) (tgt := 163) (off := 162) hX (v := 12) q12 d_Ca_apply_1 (by decide) (by decide) (by decide +kernel) (by decide) ?_
    refine g_aload_n (pc := 163) hX d_Ca_apply_163 rfl 0 rfl ?_
    refine g_iload_n (pc := 164) hX d_Ca_apply_164 rfl 2 rfl ?_
    obtain ⟨f78, h⟩ := h
    refine g_callV_V (pc := 165) hX hR f78 cf6 rfl lk_Ca_128 mf_Ca_findFunction (c_Ca_findFunction _ _ _ _ h) rfl rfl rfl ⟨by omega, by omega⟩ (cat_sum _ (Nat.le_of_ble_eq_true rfl)) d_Ca_apply_165 (fun A77 h => ?_)
    refine g_goto (pc := 168) (tgt := 302) hX d_Ca_apply_168 (by decide) ?_
    exact g_vret hX hQ h d_Ca_apply_302
  by_cases q13 : p1 = 13
  · have h := h.2.2.2.2.2.2.2.2.2.2.2.2.2.1 q13
    refine g_tabin (pc := 1) (tgt := 171) (off := 170) hX (v := 13) q13 d_Ca_apply_1 (by decide) (by decide) (by decide +kernel) (by decide) ?_
    refine g_aload_n (pc := 171) hX d_Ca_apply_171 rfl 0 rfl ?_
    refine g_aload_n (pc := 172) hX d_Ca_apply_172 rfl 0 rfl ?_
    refine g_iload_n (pc := 173) hX d_Ca_apply_173 rfl 2 rfl ?_
    obtain ⟨f81, h⟩ := h
    refine g_callV_R (pc := 174) hX hR f81 cf6 rfl lk_Ca_132 mf_Ca_functionAt (c_Ca_functionAt _ _ _ _ h) rfl rfl rfl ⟨by omega, by omega⟩ (cat_sum _ (Nat.le_of_ble_eq_true rfl)) d_Ca_apply_174 (fun r80 A79 h => ?_)
    refine g_iload_n (pc := 177) hX d_Ca_apply_177 rfl 3 rfl ?_
    refine g_callV_V (pc := 178) hX hR f81 cf6 rfl lk_Ca_136 mf_Ca_callFunction (c_Ca_callFunction hS _ _ _ _ _ h) rfl rfl rfl ⟨by omega, by omega⟩ (cat_sum _ (Nat.le_of_ble_eq_true rfl)) d_Ca_apply_178 (fun A82 h => ?_)
    refine g_goto (pc := 181) (tgt := 302) hX d_Ca_apply_181 (by decide) ?_
    exact g_vret hX hQ h d_Ca_apply_302
  have h := h.2.2.2.2.2.2.2.2.2.2.2.2.2.2 q0 q1 q2 q3 q4 q5 q6 q7 q8 q9 q10 q11 q12 q13
  refine g_tabout (pc := 1) (tgt := 302) hX (vs := [(0 : Int32), (1 : Int32), (2 : Int32), (3 : Int32), (4 : Int32), (5 : Int32), (6 : Int32), (7 : Int32), (8 : Int32), (9 : Int32), (10 : Int32), (11 : Int32), (12 : Int32), (13 : Int32)]) (List.forall_mem_cons.mpr ⟨q0, List.forall_mem_cons.mpr ⟨q1, List.forall_mem_cons.mpr ⟨q2, List.forall_mem_cons.mpr ⟨q3, List.forall_mem_cons.mpr ⟨q4, List.forall_mem_cons.mpr ⟨q5, List.forall_mem_cons.mpr ⟨q6, List.forall_mem_cons.mpr ⟨q7, List.forall_mem_cons.mpr ⟨q8, List.forall_mem_cons.mpr ⟨q9, List.forall_mem_cons.mpr ⟨q10, List.forall_mem_cons.mpr ⟨q11, List.forall_mem_cons.mpr ⟨q12, List.forall_mem_cons.mpr ⟨q13, fun _ h9 => absurd h9 List.not_mem_nil⟩⟩⟩⟩⟩⟩⟩⟩⟩⟩⟩⟩⟩⟩) d_Ca_apply_1 (by decide +kernel) (by decide) ?_
  exact g_vret hX hQ h d_Ca_apply_302
def wp_Ca_entry (o : Nat) (p1 : Nat) (p2 : Nat) (p3 : Nat) (p4 : UInt64) (p6 : Int32) (p7 : Int32) (A : Mem) (K : UInt64 → Mem → Prop) : Prop := kd p2 = 7 ∧ wp_Mx_placeOf p2 (Int32.toInt64 p6) (Int32.toInt64 p7) A (fun (r2 : Int32) (A1 : Mem) => (1100 ≤ p1 ∧ p1 < 1109) ∧ vp_in (nI (p1 - 1100)) 9 ∧ (((tb1301.getD (Int32.toNatClampNeg (nI (p1 - 1100))) 0) = 1 → K FP.dconst0 A1) ∧ ((tb1301.getD (Int32.toNatClampNeg (nI (p1 - 1100))) 0) = 2 → K FP.dconst1 A1) ∧ ((tb1301.getD (Int32.toNatClampNeg (nI (p1 - 1100))) 0) = 3 → ((¬ p6 = p7 → K FP.dconst0 A1) ∧ (p6 = p7 → K FP.dconst1 A1))) ∧ ((tb1301.getD (Int32.toNatClampNeg (nI (p1 - 1100))) 0) = 4 → wp_Mx_get p2 r2 A1 (fun (r7 : UInt64) (A6 : Mem) => kd p3 = 7 ∧ wp_Mx_get p3 r2 A6 (fun (r9 : UInt64) (A8 : Mem) => vf_n64 (FP.dadd r7 r9) ∧ kd o = 6 ∧ wp_Ca_result o (FP.dadd r7 r9) A8 (fun (r13 : UInt64) (A12 : Mem) => K r13 A12)))) ∧ ((tb1301.getD (Int32.toNatClampNeg (nI (p1 - 1100))) 0) = 5 → wp_Mx_get p2 r2 A1 (fun (r16 : UInt64) (A15 : Mem) => kd p3 = 7 ∧ wp_Mx_get p3 r2 A15 (fun (r18 : UInt64) (A17 : Mem) => vf_n64 (FP.dsub r16 r18) ∧ kd o = 6 ∧ wp_Ca_result o (FP.dsub r16 r18) A17 (fun (r22 : UInt64) (A21 : Mem) => K r22 A21)))) ∧ ((tb1301.getD (Int32.toNatClampNeg (nI (p1 - 1100))) 0) = 6 → kd o = 6 ∧ wp_Ca_sumOfProducts o p2 p3 p6 p7 A1 (fun (r25 : UInt64) (A24 : Mem) => K r25 A24)) ∧ ((tb1301.getD (Int32.toNatClampNeg (nI (p1 - 1100))) 0) = 7 → wp_Mx_placeOf p2 (Int32.toInt64 p7) (Int32.toInt64 p6) A1 (fun (r28 : Int32) (A27 : Mem) => wp_Mx_get p2 r28 A27 (fun (r30 : UInt64) (A29 : Mem) => K r30 A29))) ∧ ((tb1301.getD (Int32.toNatClampNeg (nI (p1 - 1100))) 0) = 8 → wp_Mx_get p2 r2 A1 (fun (r32 : UInt64) (A31 : Mem) => vf_n64 (FP.dmul p4 r32) ∧ kd o = 6 ∧ wp_Ca_result o (FP.dmul p4 r32) A31 (fun (r35 : UInt64) (A34 : Mem) => K r35 A34))) ∧ (¬ (tb1301.getD (Int32.toNatClampNeg (nI (p1 - 1100))) 0) = 1 → ¬ (tb1301.getD (Int32.toNatClampNeg (nI (p1 - 1100))) 0) = 2 → ¬ (tb1301.getD (Int32.toNatClampNeg (nI (p1 - 1100))) 0) = 3 → ¬ (tb1301.getD (Int32.toNatClampNeg (nI (p1 - 1100))) 0) = 4 → ¬ (tb1301.getD (Int32.toNatClampNeg (nI (p1 - 1100))) 0) = 5 → ¬ (tb1301.getD (Int32.toNatClampNeg (nI (p1 - 1100))) 0) = 6 → ¬ (tb1301.getD (Int32.toNatClampNeg (nI (p1 - 1100))) 0) = 7 → ¬ (tb1301.getD (Int32.toNatClampNeg (nI (p1 - 1100))) 0) = 8 → wp_Mx_get p2 r2 A1 (fun (r38 : UInt64) (A37 : Mem) => K r38 A37))))
set_option maxRecDepth 100000 in
set_option maxHeartbeats 4000000 in
theorem c_Ca_entry (o : Nat) (p1 : Nat) (p2 : Nat) (p3 : Nat) (p4 : UInt64) (p6 : Int32) (p7 : Int32) (A : Mem) (K : UInt64 → Mem → Prop) (h : wp_Ca_entry o p1 p2 p3 p4 p6 p7 A K) : CtD y_Ca_entry prog_3_method_27_code 9 2 51 (fun E => [cr E o, cr E p1, cr E p2, cr E p3, .double (p4), .int (p6), .int (p7)]) A K := by
  refine ctD_of "BasicMachine$Calculator" (by decide) rfl (fun E => [(0, cr E o), (1, cr E p1), (2, cr E p2), (3, cr E p3), (4, .double (p4)), (6, .int (p6)), (7, .int (p7))]) (fun E => by simp [lg_sl, cr_cat, ca_i, ca_l, ca_d]) (fun E => by simp [lv_args, cr_cat, ca_i, ca_l, ca_d]) (fun X E hX hR hN hQ => ?_)
  unfold wp_Ca_entry at h
  refine g_aload_n (pc := 0) hX d_Ca_entry_0 rfl 2 rfl ?_
  refine g_iload (pc := 1) hX d_Ca_entry_1 5 rfl ?_
  refine g_i2l (pc := 3) hX d_Ca_entry_3 ?_
  refine g_iload (pc := 4) hX d_Ca_entry_4 6 rfl ?_
  refine g_i2l (pc := 6) hX d_Ca_entry_6 ?_
  obtain ⟨f3, h⟩ := h
  refine g_callV_I (pc := 7) hX hR f3 cf7 rfl lk_Ca_163 mf_Mx_placeOf (c_Mx_placeOf _ _ _ _ _ h) rfl rfl rfl ⟨by decide, by decide⟩ (cat_sum _ (Nat.le_of_ble_eq_true rfl)) d_Ca_entry_7 (fun r2 A1 h => ?_)
  refine g_istore (pc := 10) (lv0 := [(7, .int (p7)), (0, cr E o), (1, cr E p1), (2, cr E p2), (3, cr E p3), (4, .double (p4)), (6, .int (p6))]) hX d_Ca_entry_10 (by rw [hN]; decide) (g_st1b (ks := [6, 0, 1, 2, 3, 4, 5]) rfl rfl rfl rfl) ?_
  refine g_getsT (pc := 12) hX (gSF hX).2.2.2.2.1 (by decide) ls_Ca_225 d_Ca_entry_12 ?_
  refine g_aload_n (pc := 15) hX d_Ca_entry_15 rfl 3 rfl ?_
  obtain ⟨f4, h⟩ := h
  refine g_ordinal (pc := 16) (C := "BasicMachine$Form") (d := "LBasicMachine$Form;") (nm := en1100) (b := 1100) hX hR (by decide) ⟨f4.1, by have h9 := f4; show _ - 1100 < 9; omega⟩ (fun _ _ _ h9 => h9.2.1) lk_Ca_230 so_Form so_Formb (by decide) (cat_sum _ (Nat.le_of_ble_eq_true rfl)) d_Ca_entry_16 ?_
  obtain ⟨f5, h⟩ := h
  refine g_tabld (pc := 19) hX (gSF hX).2.2.2.2.1 (by decide) f5 d_Ca_entry_19 ?_
  by_cases q0 : (tb1301.getD (Int32.toNatClampNeg (nI (p1 - 1100))) 0) = 1
  · have h := h.1 q0
    refine g_tabin (pc := 20) (tgt := 68) (off := 48) hX (v := 1) q0 d_Ca_entry_20 (by decide) (by decide) (by decide +kernel) (by decide) ?_
    refine g_dconst0 (pc := 68) hX d_Ca_entry_68 ?_
    exact g_dret hX hQ h d_Ca_entry_69
  by_cases q1 : (tb1301.getD (Int32.toNatClampNeg (nI (p1 - 1100))) 0) = 2
  · have h := h.2.1 q1
    refine g_tabin (pc := 20) (tgt := 70) (off := 50) hX (v := 2) q1 d_Ca_entry_20 (by decide) (by decide) (by decide +kernel) (by decide) ?_
    refine g_dconst1 (pc := 70) hX d_Ca_entry_70 ?_
    exact g_dret hX hQ h d_Ca_entry_71
  by_cases q2 : (tb1301.getD (Int32.toNatClampNeg (nI (p1 - 1100))) 0) = 3
  · have h := h.2.2.1 q2
    refine g_tabin (pc := 20) (tgt := 72) (off := 52) hX (v := 3) q2 d_Ca_entry_20 (by decide) (by decide) (by decide +kernel) (by decide) ?_
    refine g_iload (pc := 72) hX d_Ca_entry_72 7 rfl ?_
    refine g_iload (pc := 74) hX d_Ca_entry_74 1 rfl ?_
    refine g_icmp_ne (pc := 76) (tgt := 83) hX d_Ca_entry_76 (by decide) (fun q => ?_) (fun q => ?_)
    · have h := h.1 q
      refine g_dconst0 (pc := 83) hX d_Ca_entry_83 ?_
      exact g_dret hX hQ h d_Ca_entry_84
    · have h := h.2 q
      refine g_dconst1 (pc := 79) hX d_Ca_entry_79 ?_
      refine g_goto (pc := 80) (tgt := 84) hX d_Ca_entry_80 (by decide) ?_
      exact g_dret hX hQ h d_Ca_entry_84
  by_cases q3 : (tb1301.getD (Int32.toNatClampNeg (nI (p1 - 1100))) 0) = 4
  · have h := h.2.2.2.1 q3
    refine g_tabin (pc := 20) (tgt := 85) (off := 65) hX (v := 4) q3 d_Ca_entry_20 (by decide) (by decide) (by decide +kernel) (by decide) ?_
    refine g_aload_n (pc := 85) hX d_Ca_entry_85 rfl 2 rfl ?_
    refine g_aload_n (pc := 86) hX d_Ca_entry_86 rfl 4 rfl ?_
    refine g_iload (pc := 87) hX d_Ca_entry_87 0 rfl ?_
    refine g_callV_D (pc := 89) hX hR f3 cf7 rfl lk_Ca_170 mf_Mx_get (c_Mx_get _ _ _ _ h) rfl rfl rfl ⟨by decide, by decide⟩ (cat_sum _ (Nat.le_of_ble_eq_true rfl)) d_Ca_entry_89 (fun r7 A6 h => ?_)
    refine g_aload_n (pc := 92) hX d_Ca_entry_92 rfl 5 rfl ?_
    refine g_iload (pc := 93) hX d_Ca_entry_93 0 rfl ?_
    obtain ⟨f10, h⟩ := h
    refine g_callV_D (pc := 95) hX hR f10 cf7 rfl lk_Ca_170 mf_Mx_get (c_Mx_get _ _ _ _ h) rfl rfl rfl ⟨by decide, by decide⟩ (cat_sum _ (Nat.le_of_ble_eq_true rfl)) d_Ca_entry_95 (fun r9 A8 h => ?_)
    obtain ⟨f11, h⟩ := h
    refine g_dadd (pc := 98) hX d_Ca_entry_98 f11 ?_
    obtain ⟨f14, h⟩ := h
    refine g_callV_D (pc := 99) hX hR f14 cf6 rfl lk_Ca_140 mf_Ca_result (c_Ca_result _ _ _ _ h) rfl rfl rfl ⟨by decide, by decide⟩ (cat_sum _ (Nat.le_of_ble_eq_true rfl)) d_Ca_entry_99 (fun r13 A12 h => ?_)
    exact g_dret hX hQ h d_Ca_entry_102
  by_cases q4 : (tb1301.getD (Int32.toNatClampNeg (nI (p1 - 1100))) 0) = 5
  · have h := h.2.2.2.2.1 q4
    refine g_tabin (pc := 20) (tgt := 103) (off := 83) hX (v := 5) q4 d_Ca_entry_20 (by decide) (by decide) (by decide +kernel) (by decide) ?_
    refine g_aload_n (pc := 103) hX d_Ca_entry_103 rfl 2 rfl ?_
    refine g_aload_n (pc := 104) hX d_Ca_entry_104 rfl 4 rfl ?_
    refine g_iload (pc := 105) hX d_Ca_entry_105 0 rfl ?_
    refine g_callV_D (pc := 107) hX hR f3 cf7 rfl lk_Ca_170 mf_Mx_get (c_Mx_get _ _ _ _ h) rfl rfl rfl ⟨by decide, by decide⟩ (cat_sum _ (Nat.le_of_ble_eq_true rfl)) d_Ca_entry_107 (fun r16 A15 h => ?_)
    refine g_aload_n (pc := 110) hX d_Ca_entry_110 rfl 5 rfl ?_
    refine g_iload (pc := 111) hX d_Ca_entry_111 0 rfl ?_
    obtain ⟨f19, h⟩ := h
    refine g_callV_D (pc := 113) hX hR f19 cf7 rfl lk_Ca_170 mf_Mx_get (c_Mx_get _ _ _ _ h) rfl rfl rfl ⟨by decide, by decide⟩ (cat_sum _ (Nat.le_of_ble_eq_true rfl)) d_Ca_entry_113 (fun r18 A17 h => ?_)
    obtain ⟨f20, h⟩ := h
    refine g_dsub (pc := 116) hX d_Ca_entry_116 f20 ?_
    obtain ⟨f23, h⟩ := h
    refine g_callV_D (pc := 117) hX hR f23 cf6 rfl lk_Ca_140 mf_Ca_result (c_Ca_result _ _ _ _ h) rfl rfl rfl ⟨by decide, by decide⟩ (cat_sum _ (Nat.le_of_ble_eq_true rfl)) d_Ca_entry_117 (fun r22 A21 h => ?_)
    exact g_dret hX hQ h d_Ca_entry_120
  by_cases q5 : (tb1301.getD (Int32.toNatClampNeg (nI (p1 - 1100))) 0) = 6
  · have h := h.2.2.2.2.2.1 q5
    refine g_tabin (pc := 20) (tgt := 121) (off := 101) hX (v := 6) q5 d_Ca_entry_20 (by decide) (by decide) (by decide +kernel) (by decide) ?_
    refine g_aload_n (pc := 121) hX d_Ca_entry_121 rfl 2 rfl ?_
    refine g_aload_n (pc := 122) hX d_Ca_entry_122 rfl 4 rfl ?_
    refine g_aload_n (pc := 123) hX d_Ca_entry_123 rfl 5 rfl ?_
    refine g_iload (pc := 124) hX d_Ca_entry_124 7 rfl ?_
    refine g_iload (pc := 126) hX d_Ca_entry_126 1 rfl ?_
    obtain ⟨f26, h⟩ := h
    refine g_callV_D (pc := 128) hX hR f26 cf6 rfl lk_Ca_244 mf_Ca_sumOfProducts (c_Ca_sumOfProducts _ _ _ _ _ _ _ h) rfl rfl rfl ⟨by decide, by decide⟩ (cat_sum _ (Nat.le_of_ble_eq_true rfl)) d_Ca_entry_128 (fun r25 A24 h => ?_)
    exact g_dret hX hQ h d_Ca_entry_131
  by_cases q6 : (tb1301.getD (Int32.toNatClampNeg (nI (p1 - 1100))) 0) = 7
  · have h := h.2.2.2.2.2.2.1 q6
    refine g_tabin (pc := 20) (tgt := 132) (off := 112) hX (v := 7) q6 d_Ca_entry_20 (by decide) (by decide) (by decide +kernel) (by decide) ?_
    refine g_aload_n (pc := 132) hX d_Ca_entry_132 rfl 4 rfl ?_
    refine g_aload_n (pc := 133) hX d_Ca_entry_133 rfl 4 rfl ?_
    refine g_iload (pc := 134) hX d_Ca_entry_134 1 rfl ?_
    refine g_i2l (pc := 136) hX d_Ca_entry_136 ?_
    refine g_iload (pc := 137) hX d_Ca_entry_137 7 rfl ?_
    refine g_i2l (pc := 139) hX d_Ca_entry_139 ?_
    refine g_callV_I (pc := 140) hX hR f3 cf7 rfl lk_Ca_163 mf_Mx_placeOf (c_Mx_placeOf _ _ _ _ _ h) rfl rfl rfl ⟨by decide, by decide⟩ (cat_sum _ (Nat.le_of_ble_eq_true rfl)) d_Ca_entry_140 (fun r28 A27 h => ?_)
    refine g_callV_D (pc := 143) hX hR f3 cf7 rfl lk_Ca_170 mf_Mx_get (c_Mx_get _ _ _ _ h) rfl rfl rfl ⟨by decide, by decide⟩ (cat_sum _ (Nat.le_of_ble_eq_true rfl)) d_Ca_entry_143 (fun r30 A29 h => ?_)
    exact g_dret hX hQ h d_Ca_entry_146
  by_cases q7 : (tb1301.getD (Int32.toNatClampNeg (nI (p1 - 1100))) 0) = 8
  · have h := h.2.2.2.2.2.2.2.1 q7
    refine g_tabin (pc := 20) (tgt := 147) (off := 127) hX (v := 8) q7 d_Ca_entry_20 (by decide) (by decide) (by decide +kernel) (by decide) ?_
    refine g_aload_n (pc := 147) hX d_Ca_entry_147 rfl 2 rfl ?_
    refine g_dload (pc := 148) hX d_Ca_entry_148 6 rfl ?_
    refine g_aload_n (pc := 150) hX d_Ca_entry_150 rfl 4 rfl ?_
    refine g_iload (pc := 151) hX d_Ca_entry_151 0 rfl ?_
    refine g_callV_D (pc := 153) hX hR f3 cf7 rfl lk_Ca_170 mf_Mx_get (c_Mx_get _ _ _ _ h) rfl rfl rfl ⟨by decide, by decide⟩ (cat_sum _ (Nat.le_of_ble_eq_true rfl)) d_Ca_entry_153 (fun r32 A31 h => ?_)
    obtain ⟨f33, h⟩ := h
    refine g_dmul (pc := 156) hX d_Ca_entry_156 f33 ?_
    obtain ⟨f36, h⟩ := h
    refine g_callV_D (pc := 157) hX hR f36 cf6 rfl lk_Ca_140 mf_Ca_result (c_Ca_result _ _ _ _ h) rfl rfl rfl ⟨by decide, by decide⟩ (cat_sum _ (Nat.le_of_ble_eq_true rfl)) d_Ca_entry_157 (fun r35 A34 h => ?_)
    exact g_dret hX hQ h d_Ca_entry_160
  have h := h.2.2.2.2.2.2.2.2 q0 q1 q2 q3 q4 q5 q6 q7
  refine g_tabout (pc := 20) (tgt := 161) hX (vs := [(1 : Int32), (2 : Int32), (3 : Int32), (4 : Int32), (5 : Int32), (6 : Int32), (7 : Int32), (8 : Int32)]) (List.forall_mem_cons.mpr ⟨q0, List.forall_mem_cons.mpr ⟨q1, List.forall_mem_cons.mpr ⟨q2, List.forall_mem_cons.mpr ⟨q3, List.forall_mem_cons.mpr ⟨q4, List.forall_mem_cons.mpr ⟨q5, List.forall_mem_cons.mpr ⟨q6, List.forall_mem_cons.mpr ⟨q7, fun _ h9 => absurd h9 List.not_mem_nil⟩⟩⟩⟩⟩⟩⟩⟩) d_Ca_entry_20 (by decide +kernel) (by decide) ?_
  refine g_aload_n (pc := 161) hX d_Ca_entry_161 rfl 4 rfl ?_
  refine g_iload (pc := 162) hX d_Ca_entry_162 0 rfl ?_
  refine g_callV_D (pc := 164) hX hR f3 cf7 rfl lk_Ca_170 mf_Mx_get (c_Mx_get _ _ _ _ h) rfl rfl rfl ⟨by decide, by decide⟩ (cat_sum _ (Nat.le_of_ble_eq_true rfl)) d_Ca_entry_164 (fun r38 A37 h => ?_)
  exact g_dret hX hQ h d_Ca_entry_167
def wp_Pa_word_c2 (K : Bool → Mem → Prop) : Nat → Nat → Nat → Int32 → Mem → Prop
  | 0, _, _, _, _ => False
  | n + 1, x0, x1, x2, A => isS x1 ∧ wp_JS_length x1 A (fun (r2 : Int32) (A1 : Mem) => ((r2 ≤ x2 → K true A1) ∧ (¬ r2 ≤ x2 → wp_JS_charAt x1 x2 A1 (fun (r5 : Int32) (A4 : Mem) => kd x0 = 2 ∧ wp_Pa_skip x0 r5 A4 (fun (r7 : Bool) (A6 : Mem) => ((r7 = true → wp_Pa_word_c2 K n x0 x1 (x2 + 1) A6) ∧ (r7 = false → K false A6)))))))
def wp_Pa_word (o : Nat) (p1 : Nat) (A : Mem) (K : Bool → Mem → Prop) : Prop := (∃ n9 : Nat, wp_Pa_word_c2 K n9 o p1 0 A)
set_option maxRecDepth 100000 in
set_option maxHeartbeats 4000000 in
theorem k_Pa_word_c2 {X : CXT} {E : EVT} {K : Bool → Mem → Prop} (hX : Gd X E "BasicMachine$Parser" prog_10_method_7_code) (hR : Rm X 4 85) (hN : xnL X = 3) (hQ : QZ X E K) : ∀ (n : Nat) (x0 : Nat) (x1 : Nat) (x2 : Int32) (A : Mem), wp_Pa_word_c2 K n x0 x1 x2 A → G X E A 2 [(0, cr E x0), (1, cr E x1), (2, .int (x2))] [] := by
  intro n
  induction n with
  | zero => intro x0 x1 x2 A h; exact h.elim
  | succ n ih =>
    intro x0 x1 x2 A h
    rw [wp_Pa_word_c2] at h
    refine g_iload_n (pc := 2) hX d_Pa_word_2 rfl 2 rfl ?_
    refine g_aload_n (pc := 3) hX d_Pa_word_3 rfl 1 rfl ?_
    obtain ⟨f3, h⟩ := h
    refine g_callVS_I (pc := 4) hX hR f3 rfl lk_Pa_59 mf_JS_length (c_JS_length _ _ _ h) rfl rfl rfl ⟨by decide, by decide⟩ (cat_sum _ (Nat.le_of_ble_eq_true rfl)) d_Pa_word_4 (fun r2 A1 h => ?_)
    refine g_icmp_ge (pc := 7) (tgt := 30) hX d_Pa_word_7 (by decide) (fun q => ?_) (fun q => ?_)
    · have h := h.1 q
      refine g_iconst (pc := 30) (v := 1) hX d_Pa_word_30 (by decide) ?_
      exact g_zret hX hQ true rfl h d_Pa_word_31
    · have h := h.2 q
      refine g_aload_n (pc := 10) hX d_Pa_word_10 rfl 0 rfl ?_
      refine g_aload_n (pc := 11) hX d_Pa_word_11 rfl 1 rfl ?_
      refine g_iload_n (pc := 12) hX d_Pa_word_12 rfl 2 rfl ?_
      refine g_callVS_N (pc := 13) hX hR f3 rfl lk_Pa_64 mf_JS_charAt (c_JS_charAt _ _ _ _ h) rfl rfl rfl ⟨by decide, by decide⟩ (cat_sum _ (Nat.le_of_ble_eq_true rfl)) d_Pa_word_13 (fun r5 A4 h => ?_)
      obtain ⟨f8, h⟩ := h
      refine g_callV_Z (pc := 16) hX hR f8 cf2 rfl lk_Pa_68 mf_Pa_skip (c_Pa_skip _ _ _ _ h) rfl rfl rfl ⟨by decide, by decide⟩ (cat_sum _ (Nat.le_of_ble_eq_true rfl)) d_Pa_word_16 (fun r7 A6 h => ?_)
      refine g_ifB_ne (pc := 19) (tgt := 24) hX d_Pa_word_19 (by decide) (fun q => ?_) (fun q => ?_)
      · have h := h.1 q
        refine g_iinc (pc := 24) (v := (x2 + 1)) (lv0 := [(1, cr E x1), (0, cr E x0)]) hX d_Pa_word_24 2 rfl rfl (by rw [hN]; decide) (g_st1b (ks := [1, 0]) rfl (cr_cat _ _) rfl rfl) ?_
        refine g_goto (pc := 27) (tgt := 2) hX d_Pa_word_27 (by decide) ?_
        refine g_sub [2, 1, 0] rfl ?_
        exact ih _ _ _ _ h
      · have h := h.2 q
        refine g_iconst (pc := 22) (v := 0) hX d_Pa_word_22 (by decide) ?_
        exact g_zret hX hQ false rfl h d_Pa_word_23
set_option maxRecDepth 100000 in
set_option maxHeartbeats 4000000 in
theorem c_Pa_word (o : Nat) (p1 : Nat) (A : Mem) (K : Bool → Mem → Prop) (h : wp_Pa_word o p1 A K) : CtZ y_Pa_word prog_10_method_7_code 3 4 85 (fun E => [cr E o, cr E p1]) A K := by
  refine ctZ_of "BasicMachine$Parser" (by decide) rfl (fun E => [(0, cr E o), (1, cr E p1)]) (fun E => by simp [lg_sl, cr_cat, ca_i, ca_l, ca_d]) (fun E => by simp [lv_args, cr_cat, ca_i, ca_l, ca_d]) (fun X E hX hR hN hQ => ?_)
  unfold wp_Pa_word at h
  refine g_iconst (pc := 0) (v := 0) hX d_Pa_word_0 (by decide) ?_
  refine g_istore_n (pc := 1) (lv0 := [(1, cr E p1), (0, cr E o)]) hX d_Pa_word_1 rfl (by rw [hN]; decide) (g_st1b (ks := [1, 0]) rfl (cr_cat _ _) rfl rfl) ?_
  refine g_sub [2, 1, 0] rfl ?_
  obtain ⟨n9, h⟩ := h
  exact k_Pa_word_c2 hX hR hN hQ n9 _ _ _ _ h
def wp_Pa_sharedLength_c2 (K : Int32 → Mem → Prop) : Nat → Nat → Nat → Int32 → Mem → Prop
  | 0, _, _, _, _ => False
  | n + 1, x0, x1, x2, A => isS x1 ∧ wp_JS_length x1 A (fun (r2 : Int32) (A1 : Mem) => ((r2 ≤ x2 → K x2 A1) ∧ (¬ r2 ≤ x2 → kd x0 = 2 ∧ wp_Pa_behind x0 x2 A1 (fun (r5 : Int32) (A4 : Mem) => wp_JS_charAt x1 x2 A4 (fun (r8 : Int32) (A7 : Mem) => ((¬ r5 = r8 → K x2 A7) ∧ (r5 = r8 → wp_Pa_sharedLength_c2 K n x0 x1 (x2 + 1) A7)))))))
def wp_Pa_sharedLength (o : Nat) (p1 : Nat) (A : Mem) (K : Int32 → Mem → Prop) : Prop := (∃ n9 : Nat, wp_Pa_sharedLength_c2 K n9 o p1 0 A)
set_option maxRecDepth 100000 in
set_option maxHeartbeats 4000000 in
theorem k_Pa_sharedLength_c2 {X : CXT} {E : EVT} {K : Int32 → Mem → Prop} (hX : Gd X E "BasicMachine$Parser" prog_10_method_9_code) (hR : Rm X 4 85) (hN : xnL X = 3) (hQ : QI X E K) : ∀ (n : Nat) (x0 : Nat) (x1 : Nat) (x2 : Int32) (A : Mem), wp_Pa_sharedLength_c2 K n x0 x1 x2 A → G X E A 2 [(0, cr E x0), (1, cr E x1), (2, .int (x2))] [] := by
  intro n
  induction n with
  | zero => intro x0 x1 x2 A h; exact h.elim
  | succ n ih =>
    intro x0 x1 x2 A h
    rw [wp_Pa_sharedLength_c2] at h
    refine g_iload_n (pc := 2) hX d_Pa_sharedLength_2 rfl 2 rfl ?_
    refine g_aload_n (pc := 3) hX d_Pa_sharedLength_3 rfl 1 rfl ?_
    obtain ⟨f3, h⟩ := h
    refine g_callVS_I (pc := 4) hX hR f3 rfl lk_Pa_59 mf_JS_length (c_JS_length _ _ _ h) rfl rfl rfl ⟨by decide, by decide⟩ (cat_sum _ (Nat.le_of_ble_eq_true rfl)) d_Pa_sharedLength_4 (fun r2 A1 h => ?_)
    refine g_icmp_ge (pc := 7) (tgt := 29) hX d_Pa_sharedLength_7 (by decide) (fun q => ?_) (fun q => ?_)
    · have h := h.1 q
      refine g_iload_n (pc := 29) hX d_Pa_sharedLength_29 rfl 2 rfl ?_
      exact g_iret hX hQ h d_Pa_sharedLength_30
    · have h := h.2 q
      refine g_aload_n (pc := 10) hX d_Pa_sharedLength_10 rfl 0 rfl ?_
      refine g_iload_n (pc := 11) hX d_Pa_sharedLength_11 rfl 2 rfl ?_
      obtain ⟨f6, h⟩ := h
      refine g_callV_I (pc := 12) hX hR f6 cf2 rfl lk_Pa_96 mf_Pa_behind (c_Pa_behind _ _ _ _ h) rfl rfl rfl ⟨by decide, by decide⟩ (cat_sum _ (Nat.le_of_ble_eq_true rfl)) d_Pa_sharedLength_12 (fun r5 A4 h => ?_)
      refine g_aload_n (pc := 15) hX d_Pa_sharedLength_15 rfl 1 rfl ?_
      refine g_iload_n (pc := 16) hX d_Pa_sharedLength_16 rfl 2 rfl ?_
      refine g_callVS_N (pc := 17) hX hR f3 rfl lk_Pa_64 mf_JS_charAt (c_JS_charAt _ _ _ _ h) rfl rfl rfl ⟨by decide, by decide⟩ (cat_sum _ (Nat.le_of_ble_eq_true rfl)) d_Pa_sharedLength_17 (fun r8 A7 h => ?_)
      refine g_icmp_ne (pc := 20) (tgt := 29) hX d_Pa_sharedLength_20 (by decide) (fun q => ?_) (fun q => ?_)
      · have h := h.1 q
        refine g_iload_n (pc := 29) hX d_Pa_sharedLength_29 rfl 2 rfl ?_
        exact g_iret hX hQ h d_Pa_sharedLength_30
      · have h := h.2 q
        refine g_iinc (pc := 23) (v := (x2 + 1)) (lv0 := [(1, cr E x1), (0, cr E x0)]) hX d_Pa_sharedLength_23 2 rfl rfl (by rw [hN]; decide) (g_st1b (ks := [1, 0]) rfl (cr_cat _ _) rfl rfl) ?_
        refine g_goto (pc := 26) (tgt := 2) hX d_Pa_sharedLength_26 (by decide) ?_
        refine g_sub [2, 1, 0] rfl ?_
        exact ih _ _ _ _ h
set_option maxRecDepth 100000 in
set_option maxHeartbeats 4000000 in
theorem c_Pa_sharedLength (o : Nat) (p1 : Nat) (A : Mem) (K : Int32 → Mem → Prop) (h : wp_Pa_sharedLength o p1 A K) : CtI y_Pa_sharedLength prog_10_method_9_code 3 4 85 (fun E => [cr E o, cr E p1]) A K := by
  refine ctI_of "BasicMachine$Parser" (by decide) rfl (fun E => [(0, cr E o), (1, cr E p1)]) (fun E => by simp [lg_sl, cr_cat, ca_i, ca_l, ca_d]) (fun E => by simp [lv_args, cr_cat, ca_i, ca_l, ca_d]) (fun X E hX hR hN hQ => ?_)
  unfold wp_Pa_sharedLength at h
  refine g_iconst (pc := 0) (v := 0) hX d_Pa_sharedLength_0 (by decide) ?_
  refine g_istore_n (pc := 1) (lv0 := [(1, cr E p1), (0, cr E o)]) hX d_Pa_sharedLength_1 rfl (by rw [hN]; decide) (g_st1b (ks := [1, 0]) rfl (cr_cat _ _) rfl rfl) ?_
  refine g_sub [2, 1, 0] rfl ?_
  obtain ⟨n9, h⟩ := h
  exact k_Pa_sharedLength_c2 hX hR hN hQ n9 _ _ _ _ h
def wp_Pa_lineNumber_c7 (K : Bool → Mem → Prop) : Nat → Nat → Int32 → Mem → Prop
  | 0, _, _, _ => False
  | n + 1, x0, x1, A => ((3 < x1 → kd x0 = 2 ∧ (((gI A x0 5) ≤ 0 → K false A) ∧ (¬ (gI A x0 5) ≤ 0 → K true A))) ∧ (¬ 3 < x1 → kd x0 = 2 ∧ wp_Pa_next x0 A (fun (r4 : Int32) (A3 : Mem) => wp_BM_isDigit r4 A3 (fun (r7 : Bool) (A6 : Mem) => ((r7 = false → (((gI A6 x0 5) ≤ 0 → K false A6) ∧ (¬ (gI A6 x0 5) ≤ 0 → K true A6))) ∧ (r7 = true → wp_Pa_next x0 A6 (fun (r9 : Int32) (A8 : Mem) => ((¬ x1 = 3 → ∀ A10 : Mem, A10 = (sI (sI A8 x0 5 ((((gI A6 x0 5) * 10) + r9) - 48)) x0 1 ((gI (sI A8 x0 5 ((((gI A6 x0 5) * 10) + r9) - 48)) x0 1) + 1)) → wp_Pa_lineNumber_c7 K n x0 (x1 + 1) A10) ∧ (x1 = 3 → ((¬ ((((gI A6 x0 5) * 10) + r9) - 48) = 0 → ∀ A11 : Mem, A11 = (sI (sI A8 x0 5 ((((gI A6 x0 5) * 10) + r9) - 48)) x0 1 ((gI (sI A8 x0 5 ((((gI A6 x0 5) * 10) + r9) - 48)) x0 1) + 1)) → wp_Pa_lineNumber_c7 K n x0 (x1 + 1) A11) ∧ (((((gI A6 x0 5) * 10) + r9) - 48) = 0 → K false A8)))))))))))
def wp_Pa_lineNumber (o : Nat) (A : Mem) (K : Bool → Mem → Prop) : Prop := kd o = 2 ∧ (∃ n9 : Nat, wp_Pa_lineNumber_c7 K n9 o 1 (sI A o 5 0))
set_option maxRecDepth 100000 in
set_option maxHeartbeats 4000000 in
theorem k_Pa_lineNumber_c7 {X : CXT} {E : EVT} {K : Bool → Mem → Prop} (hX : Gd X E "BasicMachine$Parser" prog_10_method_12_code) (hR : Rm X 1 20) (hN : xnL X = 3) (hQ : QZ X E K) : ∀ (n : Nat) (x0 : Nat) (x1 : Int32) (A : Mem), wp_Pa_lineNumber_c7 K n x0 x1 A → G X E A 7 [(0, cr E x0), (1, .int (x1))] [] := by
  intro n
  induction n with
  | zero => intro x0 x1 A h; exact h.elim
  | succ n ih =>
    intro x0 x1 A h
    rw [wp_Pa_lineNumber_c7] at h
    refine g_iload_n (pc := 7) hX d_Pa_lineNumber_7 rfl 1 rfl ?_
    refine g_iconst (pc := 8) (v := 3) hX d_Pa_lineNumber_8 (by decide) ?_
    refine g_icmp_gt (pc := 9) (tgt := 70) hX d_Pa_lineNumber_9 (by decide) (fun q => ?_) (fun q => ?_)
    · have h := h.1 q
      refine g_aload_n (pc := 70) hX d_Pa_lineNumber_70 rfl 0 rfl ?_
      obtain ⟨f2, h⟩ := h
      refine g_getI (pc := 71) hX fl_Pa_40 rfl f2 d_Pa_lineNumber_71 ?_
      refine g_if_le (pc := 74) (tgt := 81) hX d_Pa_lineNumber_74 (by decide) (fun q => ?_) (fun q => ?_)
      · have h := h.1 q
        refine g_iconst (pc := 81) (v := 0) hX d_Pa_lineNumber_81 (by decide) ?_
        exact g_zret hX hQ false rfl h d_Pa_lineNumber_82
      · have h := h.2 q
        refine g_iconst (pc := 77) (v := 1) hX d_Pa_lineNumber_77 (by decide) ?_
        refine g_goto (pc := 78) (tgt := 82) hX d_Pa_lineNumber_78 (by decide) ?_
        exact g_zret hX hQ true rfl h d_Pa_lineNumber_82
    · have h := h.2 q
      refine g_aload_n (pc := 12) hX d_Pa_lineNumber_12 rfl 0 rfl ?_
      obtain ⟨f5, h⟩ := h
      refine g_callV_I (pc := 13) hX hR f5 cf2 rfl lk_Pa_157 mf_Pa_next (c_Pa_next _ _ _ h) rfl rfl rfl ⟨by decide, by decide⟩ (cat_sum _ (Nat.le_of_ble_eq_true rfl)) d_Pa_lineNumber_13 (fun r4 A3 h => ?_)
      refine g_callSN_Z (pc := 16) hX hR lk_Pa_160 mf_BM_isDigit (c_BM_isDigit _ _ _ h) rfl rfl rfl ⟨by decide, by decide⟩ (cat_sum _ (Nat.le_of_ble_eq_true rfl)) d_Pa_lineNumber_16 (fun r7 A6 h => ?_)
      refine g_ifB_eq (pc := 19) (tgt := 70) hX d_Pa_lineNumber_19 (by decide) (fun q => ?_) (fun q => ?_)
      · have h := h.1 q
        refine g_aload_n (pc := 70) hX d_Pa_lineNumber_70 rfl 0 rfl ?_
        refine g_getI (pc := 71) hX fl_Pa_40 rfl f5 d_Pa_lineNumber_71 ?_
        refine g_if_le (pc := 74) (tgt := 81) hX d_Pa_lineNumber_74 (by decide) (fun q => ?_) (fun q => ?_)
        · have h := h.1 q
          refine g_iconst (pc := 81) (v := 0) hX d_Pa_lineNumber_81 (by decide) ?_
          exact g_zret hX hQ false rfl h d_Pa_lineNumber_82
        · have h := h.2 q
          refine g_iconst (pc := 77) (v := 1) hX d_Pa_lineNumber_77 (by decide) ?_
          refine g_goto (pc := 78) (tgt := 82) hX d_Pa_lineNumber_78 (by decide) ?_
          exact g_zret hX hQ true rfl h d_Pa_lineNumber_82
      · have h := h.2 q
        refine g_aload_n (pc := 22) hX d_Pa_lineNumber_22 rfl 0 rfl ?_
        refine g_getI (pc := 23) hX fl_Pa_40 rfl f5 d_Pa_lineNumber_23 ?_
        refine g_bipush (pc := 26) (v := 10) hX d_Pa_lineNumber_26 (by decide) ?_
        refine g_imul (pc := 28) hX d_Pa_lineNumber_28 ?_
        refine g_aload_n (pc := 29) hX d_Pa_lineNumber_29 rfl 0 rfl ?_
        refine g_callV_I (pc := 30) hX hR f5 cf2 rfl lk_Pa_157 mf_Pa_next (c_Pa_next _ _ _ h) rfl rfl rfl ⟨by decide, by decide⟩ (cat_sum _ (Nat.le_of_ble_eq_true rfl)) d_Pa_lineNumber_30 (fun r9 A8 h => ?_)
        refine g_iadd (pc := 33) hX d_Pa_lineNumber_33 ?_
        refine g_bipush (pc := 34) (v := 48) hX d_Pa_lineNumber_34 (by decide) ?_
        refine g_isub (pc := 36) hX d_Pa_lineNumber_36 ?_
        refine g_istore_n (pc := 37) (lv0 := [(1, .int (x1)), (0, cr E x0)]) hX d_Pa_lineNumber_37 rfl (by rw [hN]; decide) (g_st1b (ks := [1, 0]) rfl rfl rfl rfl) ?_
        refine g_iload_n (pc := 38) hX d_Pa_lineNumber_38 rfl 1 rfl ?_
        refine g_iconst (pc := 39) (v := 3) hX d_Pa_lineNumber_39 (by decide) ?_
        refine g_icmp_ne (pc := 40) (tgt := 49) hX d_Pa_lineNumber_40 (by decide) (fun q => ?_) (fun q => ?_)
        · have h := h.1 q
          refine g_aload_n (pc := 49) hX d_Pa_lineNumber_49 rfl 2 rfl ?_
          refine g_iload_n (pc := 50) hX d_Pa_lineNumber_50 rfl 0 rfl ?_
          refine g_putI (pc := 51) hX fl_Pa_40 rfl rfl rfl f5 d_Pa_lineNumber_51 ?_
          refine g_aload_n (pc := 54) hX d_Pa_lineNumber_54 rfl 2 rfl ?_
          refine g_dup (pc := 55) hX d_Pa_lineNumber_55 (cr_cat _ _) ?_
          refine g_getI (pc := 56) hX fl_Pa_26 rfl f5 d_Pa_lineNumber_56 ?_
          refine g_iconst (pc := 59) (v := 1) hX d_Pa_lineNumber_59 (by decide) ?_
          refine g_iadd (pc := 60) hX d_Pa_lineNumber_60 ?_
          refine g_putI (pc := 61) hX fl_Pa_26 rfl rfl rfl f5 d_Pa_lineNumber_61 ?_
          refine g_nm (fun A10 eA10 => ?_)
          have h := h A10 eA10
          refine g_iinc (pc := 64) (v := (x1 + 1)) (lv0 := [(0, cr E x0), (2, .int (((((gI A6 x0 5) * 10) + r9) - 48)))]) hX d_Pa_lineNumber_64 1 rfl rfl (by rw [hN]; decide) (g_st1b (ks := [2, 0]) rfl (cr_cat _ _) rfl rfl) ?_
          refine g_goto (pc := 67) (tgt := 7) hX d_Pa_lineNumber_67 (by decide) ?_
          refine g_sub [1, 0] rfl ?_
          exact ih _ _ _ h
        · have h := h.2 q
          refine g_iload_n (pc := 43) hX d_Pa_lineNumber_43 rfl 0 rfl ?_
          refine g_if_ne (pc := 44) (tgt := 49) hX d_Pa_lineNumber_44 (by decide) (fun q => ?_) (fun q => ?_)
          · have h := h.1 q
            refine g_aload_n (pc := 49) hX d_Pa_lineNumber_49 rfl 2 rfl ?_
            refine g_iload_n (pc := 50) hX d_Pa_lineNumber_50 rfl 0 rfl ?_
            refine g_putI (pc := 51) hX fl_Pa_40 rfl rfl rfl f5 d_Pa_lineNumber_51 ?_
            refine g_aload_n (pc := 54) hX d_Pa_lineNumber_54 rfl 2 rfl ?_
            refine g_dup (pc := 55) hX d_Pa_lineNumber_55 (cr_cat _ _) ?_
            refine g_getI (pc := 56) hX fl_Pa_26 rfl f5 d_Pa_lineNumber_56 ?_
            refine g_iconst (pc := 59) (v := 1) hX d_Pa_lineNumber_59 (by decide) ?_
            refine g_iadd (pc := 60) hX d_Pa_lineNumber_60 ?_
            refine g_putI (pc := 61) hX fl_Pa_26 rfl rfl rfl f5 d_Pa_lineNumber_61 ?_
            refine g_nm (fun A11 eA11 => ?_)
            have h := h A11 eA11
            refine g_iinc (pc := 64) (v := (x1 + 1)) (lv0 := [(0, cr E x0), (2, .int (((((gI A6 x0 5) * 10) + r9) - 48)))]) hX d_Pa_lineNumber_64 1 rfl rfl (by rw [hN]; decide) (g_st1b (ks := [2, 0]) rfl (cr_cat _ _) rfl rfl) ?_
            refine g_goto (pc := 67) (tgt := 7) hX d_Pa_lineNumber_67 (by decide) ?_
            refine g_sub [1, 0] rfl ?_
            exact ih _ _ _ h
          · have h := h.2 q
            refine g_iconst (pc := 47) (v := 0) hX d_Pa_lineNumber_47 (by decide) ?_
            exact g_zret hX hQ false rfl h d_Pa_lineNumber_48
set_option maxRecDepth 100000 in
set_option maxHeartbeats 4000000 in
theorem c_Pa_lineNumber (o : Nat) (A : Mem) (K : Bool → Mem → Prop) (h : wp_Pa_lineNumber o A K) : CtZ y_Pa_lineNumber prog_10_method_12_code 3 1 20 (fun E => [cr E o]) A K := by
  refine ctZ_of "BasicMachine$Parser" (by decide) rfl (fun E => [(0, cr E o)]) (fun E => by simp [lg_sl, cr_cat, ca_i, ca_l, ca_d]) (fun E => by simp [lv_args, cr_cat, ca_i, ca_l, ca_d]) (fun X E hX hR hN hQ => ?_)
  unfold wp_Pa_lineNumber at h
  refine g_aload_n (pc := 0) hX d_Pa_lineNumber_0 rfl 0 rfl ?_
  refine g_iconst (pc := 1) (v := 0) hX d_Pa_lineNumber_1 (by decide) ?_
  obtain ⟨f1, h⟩ := h
  refine g_putI (pc := 2) hX fl_Pa_40 rfl rfl rfl f1 d_Pa_lineNumber_2 ?_
  refine g_iconst (pc := 5) (v := 1) hX d_Pa_lineNumber_5 (by decide) ?_
  refine g_istore_n (pc := 6) (lv0 := [(0, cr E o)]) hX d_Pa_lineNumber_6 rfl (by rw [hN]; decide) (g_st1b (ks := [0]) rfl (cr_cat _ _) rfl rfl) ?_
  refine g_sub [1, 0] rfl ?_
  obtain ⟨n9, h⟩ := h
  exact k_Pa_lineNumber_c7 hX hR hN hQ n9 _ _ _ h
def wp_Pa_jump (o : Nat) (A : Mem) (K : Bool → Mem → Prop) : Prop := kd o = 2 ∧ wp_Pa_lineNumber o A (fun (r2 : Bool) (A1 : Mem) => ((r2 = true → kd (gR A1 o 0) = 3 ∧ wp_Li_addNumber (gR A1 o 0) (gI A1 o 5) A1 (fun (A4 : Mem) => K true A4)) ∧ (r2 = false → K false A1)))
set_option maxRecDepth 100000 in
set_option maxHeartbeats 4000000 in
theorem c_Pa_jump (o : Nat) (A : Mem) (K : Bool → Mem → Prop) (h : wp_Pa_jump o A K) : CtZ y_Pa_jump prog_10_method_13_code 1 2 42 (fun E => [cr E o]) A K := by
  refine ctZ_of "BasicMachine$Parser" (by decide) rfl (fun E => [(0, cr E o)]) (fun E => by simp [lg_sl, cr_cat, ca_i, ca_l, ca_d]) (fun E => by simp [lv_args, cr_cat, ca_i, ca_l, ca_d]) (fun X E hX hR hN hQ => ?_)
  unfold wp_Pa_jump at h
  refine g_aload_n (pc := 0) hX d_Pa_jump_0 rfl 0 rfl ?_
  obtain ⟨f3, h⟩ := h
  refine g_callV_Z (pc := 1) hX hR f3 cf2 rfl lk_Pa_36 mf_Pa_lineNumber (c_Pa_lineNumber _ _ _ h) rfl rfl rfl ⟨by decide, by decide⟩ (cat_sum _ (Nat.le_of_ble_eq_true rfl)) d_Pa_jump_1 (fun r2 A1 h => ?_)
  refine g_ifB_ne (pc := 4) (tgt := 9) hX d_Pa_jump_4 (by decide) (fun q => ?_) (fun q => ?_)
  · have h := h.1 q
    refine g_aload_n (pc := 9) hX d_Pa_jump_9 rfl 0 rfl ?_
    refine g_getR (pc := 10) hX fl_Pa_12 rfl f3 d_Pa_jump_10 ?_
    refine g_aload_n (pc := 13) hX d_Pa_jump_13 rfl 0 rfl ?_
    refine g_getI (pc := 14) hX fl_Pa_40 rfl f3 d_Pa_jump_14 ?_
    obtain ⟨f5, h⟩ := h
    refine g_callV_V (pc := 17) hX hR f5 cf3 rfl lk_Pa_164 mf_Li_addNumber (c_Li_addNumber _ _ _ _ h) rfl rfl rfl ⟨by decide, by decide⟩ (cat_sum _ (Nat.le_of_ble_eq_true rfl)) d_Pa_jump_17 (fun A4 h => ?_)
    refine g_iconst (pc := 20) (v := 1) hX d_Pa_jump_20 (by decide) ?_
    exact g_zret hX hQ true rfl h d_Pa_jump_21
  · have h := h.2 q
    refine g_iconst (pc := 7) (v := 0) hX d_Pa_jump_7 (by decide) ?_
    exact g_zret hX hQ false rfl h d_Pa_jump_8
def wp_Pa_jumps_c7 (K : Bool → Mem → Prop) : Nat → Nat → Int32 → Int32 → Mem → Prop
  | 0, _, _, _, _ => False
  | n + 1, x0, x1, x2, A => ((4 ≤ x2 → isB x1 ∧ K (toB x1) A) ∧ (¬ 4 ≤ x2 → ((x1 = 0 → isB x1 ∧ K (toB x1) A) ∧ (¬ x1 = 0 → kd x0 = 2 ∧ wp_Pa_skip x0 44 A (fun (r7 : Bool) (A6 : Mem) => ((r7 = false → isB x1 ∧ K (toB x1) A6) ∧ (r7 = true → wp_Pa_jump x0 A6 (fun (r11 : Bool) (A10 : Mem) => wp_Pa_jumps_c7 K n x0 (bI r11) (x2 + 1) A10))))))))
def wp_Pa_jumps (o : Nat) (A : Mem) (K : Bool → Mem → Prop) : Prop := kd o = 2 ∧ wp_Pa_jump o A (fun (r2 : Bool) (A1 : Mem) => (∃ n9 : Nat, wp_Pa_jumps_c7 K n9 o (bI r2) 1 A1))
set_option maxRecDepth 100000 in
set_option maxHeartbeats 4000000 in
theorem k_Pa_jumps_c7 {X : CXT} {E : EVT} {K : Bool → Mem → Prop} (hX : Gd X E "BasicMachine$Parser" prog_10_method_14_code) (hR : Rm X 3 62) (hN : xnL X = 3) (hQ : QZ X E K) : ∀ (n : Nat) (x0 : Nat) (x1 : Int32) (x2 : Int32) (A : Mem), wp_Pa_jumps_c7 K n x0 x1 x2 A → G X E A 7 [(0, cr E x0), (1, .int (x1)), (2, .int (x2))] [] := by
  intro n
  induction n with
  | zero => intro x0 x1 x2 A h; exact h.elim
  | succ n ih =>
    intro x0 x1 x2 A h
    rw [wp_Pa_jumps_c7] at h
    refine g_iload_n (pc := 7) hX d_Pa_jumps_7 rfl 2 rfl ?_
    refine g_iconst (pc := 8) (v := 4) hX d_Pa_jumps_8 (by decide) ?_
    refine g_icmp_ge (pc := 9) (tgt := 36) hX d_Pa_jumps_9 (by decide) (fun q => ?_) (fun q => ?_)
    · have h := h.1 q
      refine g_iload_n (pc := 36) hX d_Pa_jumps_36 rfl 1 rfl ?_
      obtain ⟨f4, h⟩ := h
      exact g_zret hX hQ (toB x1) (bI_toB f4).symm h d_Pa_jumps_37
    · have h := h.2 q
      refine g_iload_n (pc := 12) hX d_Pa_jumps_12 rfl 1 rfl ?_
      refine g_if_eq (pc := 13) (tgt := 36) hX d_Pa_jumps_13 (by decide) (fun q => ?_) (fun q => ?_)
      · have h := h.1 q
        refine g_iload_n (pc := 36) hX d_Pa_jumps_36 rfl 1 rfl ?_
        obtain ⟨f5, h⟩ := h
        exact g_zret hX hQ (toB x1) (bI_toB f5).symm h d_Pa_jumps_37
      · have h := h.2 q
        refine g_aload_n (pc := 16) hX d_Pa_jumps_16 rfl 0 rfl ?_
        refine g_bipush (pc := 17) (v := 44) hX d_Pa_jumps_17 (by decide) ?_
        obtain ⟨f8, h⟩ := h
        refine g_callV_Z (pc := 19) hX hR f8 cf2 rfl lk_Pa_68 mf_Pa_skip (c_Pa_skip _ _ _ _ h) rfl rfl rfl ⟨by decide, by decide⟩ (cat_sum _ (Nat.le_of_ble_eq_true rfl)) d_Pa_jumps_19 (fun r7 A6 h => ?_)
        refine g_ifB_eq (pc := 22) (tgt := 36) hX d_Pa_jumps_22 (by decide) (fun q => ?_) (fun q => ?_)
        · have h := h.1 q
          refine g_iload_n (pc := 36) hX d_Pa_jumps_36 rfl 1 rfl ?_
          obtain ⟨f9, h⟩ := h
          exact g_zret hX hQ (toB x1) (bI_toB f9).symm h d_Pa_jumps_37
        · have h := h.2 q
          refine g_aload_n (pc := 25) hX d_Pa_jumps_25 rfl 0 rfl ?_
          refine g_callV_Z (pc := 26) hX hR f8 cf2 rfl lk_Pa_123 mf_Pa_jump (c_Pa_jump _ _ _ h) rfl rfl rfl ⟨by decide, by decide⟩ (cat_sum _ (Nat.le_of_ble_eq_true rfl)) d_Pa_jumps_26 (fun r11 A10 h => ?_)
          refine g_istore_n (pc := 29) (lv0 := [(0, cr E x0), (2, .int (x2))]) hX d_Pa_jumps_29 rfl (by rw [hN]; decide) (g_st1b (ks := [0, 2]) rfl (cr_cat _ _) rfl rfl) ?_
          refine g_iinc (pc := 30) (v := (x2 + 1)) (lv0 := [(1, .int (bI r11)), (0, cr E x0)]) hX d_Pa_jumps_30 2 rfl rfl (by rw [hN]; decide) (g_st1b (ks := [0, 1]) rfl rfl rfl rfl) ?_
          refine g_goto (pc := 33) (tgt := 7) hX d_Pa_jumps_33 (by decide) ?_
          refine g_sub [2, 1, 0] rfl ?_
          exact ih _ _ _ _ h
set_option maxRecDepth 100000 in
set_option maxHeartbeats 4000000 in
theorem c_Pa_jumps (o : Nat) (A : Mem) (K : Bool → Mem → Prop) (h : wp_Pa_jumps o A K) : CtZ y_Pa_jumps prog_10_method_14_code 3 3 62 (fun E => [cr E o]) A K := by
  refine ctZ_of "BasicMachine$Parser" (by decide) rfl (fun E => [(0, cr E o)]) (fun E => by simp [lg_sl, cr_cat, ca_i, ca_l, ca_d]) (fun E => by simp [lv_args, cr_cat, ca_i, ca_l, ca_d]) (fun X E hX hR hN hQ => ?_)
  unfold wp_Pa_jumps at h
  refine g_aload_n (pc := 0) hX d_Pa_jumps_0 rfl 0 rfl ?_
  obtain ⟨f3, h⟩ := h
  refine g_callV_Z (pc := 1) hX hR f3 cf2 rfl lk_Pa_123 mf_Pa_jump (c_Pa_jump _ _ _ h) rfl rfl rfl ⟨by decide, by decide⟩ (cat_sum _ (Nat.le_of_ble_eq_true rfl)) d_Pa_jumps_1 (fun r2 A1 h => ?_)
  refine g_istore_n (pc := 4) (lv0 := [(0, cr E o)]) hX d_Pa_jumps_4 rfl (by rw [hN]; decide) (g_st1b (ks := [0]) rfl (cr_cat _ _) rfl rfl) ?_
  refine g_iconst (pc := 5) (v := 1) hX d_Pa_jumps_5 (by decide) ?_
  refine g_istore_n (pc := 6) (lv0 := [(1, .int (bI r2)), (0, cr E o)]) hX d_Pa_jumps_6 rfl (by rw [hN]; decide) (g_st1b (ks := [0, 1]) rfl rfl rfl rfl) ?_
  refine g_sub [2, 1, 0] rfl ?_
  obtain ⟨n9, h⟩ := h
  exact k_Pa_jumps_c7 hX hR hN hQ n9 _ _ _ _ h
def wp_Pa_numeral_c143 (J95 : Nat → Int32 → Int32 → Mem → Prop) (K : Bool → Mem → Prop) (x0 : Nat) (x1 : Int32) (x2 : Int32) (x3 : Int32) (s0 : Int32) (s1 : Int32) (s2 : Nat) (A : Mem) : Prop := kd s2 = 2 ∧ kd x0 = 2 ∧ ((x3 = 0 → J95 x0 x1 (x2 + 1) (sI (sI A s2 5 (s1 + s0)) x0 1 ((gI (sI A s2 5 (s1 + s0)) x0 1) + 0))) ∧ (¬ x3 = 0 → J95 x0 x1 (x2 + 1) (sI (sI A s2 5 (s1 + s0)) x0 1 ((gI (sI A s2 5 (s1 + s0)) x0 1) + 1))))
def wp_Pa_numeral_c119 (J95 : Nat → Int32 → Int32 → Mem → Prop) (K : Bool → Mem → Prop) (x0 : Nat) (x1 : Int32) (x2 : Int32) (s0 : Int32) (A : Mem) : Prop := kd x0 = 2 ∧ ((s0 = 0 → wp_Pa_numeral_c143 J95 K x0 x1 x2 s0 0 ((gI A x0 5) * 10) x0 A) ∧ (¬ s0 = 0 → wp_Pa_next x0 A (fun (r28 : Int32) (A27 : Mem) => wp_Pa_numeral_c143 J95 K x0 x1 x2 s0 (r28 - 48) ((gI A x0 5) * 10) x0 A27)))
def wp_Pa_numeral_c95 (K : Bool → Mem → Prop) : Nat → Nat → Int32 → Int32 → Mem → Prop
  | 0, _, _, _, _ => False
  | n + 1, x0, x1, x2, A => ((3 ≤ x2 → K true A) ∧ (¬ 3 ≤ x2 → ((x1 = 0 → wp_Pa_numeral_c119 (wp_Pa_numeral_c95 K n) K x0 x1 x2 0 A) ∧ (¬ x1 = 0 → kd x0 = 2 ∧ wp_Pa_next x0 A (fun (r22 : Int32) (A21 : Mem) => wp_BM_isDigit r22 A21 (fun (r25 : Bool) (A24 : Mem) => ((r25 = false → wp_Pa_numeral_c119 (wp_Pa_numeral_c95 K n) K x0 x1 x2 0 A24) ∧ (r25 = true → wp_Pa_numeral_c119 (wp_Pa_numeral_c95 K n) K x0 x1 x2 1 A24))))))))
def wp_Pa_numeral_c70 (K : Bool → Mem → Prop) (x0 : Nat) (A : Mem) : Prop := kd x0 = 2 ∧ wp_Pa_skip x0 46 A (fun (r15 : Bool) (A14 : Mem) => ((r15 = false → (∃ n9 : Nat, wp_Pa_numeral_c95 K n9 x0 (bI r15) 0 A14)) ∧ (r15 = true → wp_Pa_next x0 A14 (fun (r18 : Int32) (A17 : Mem) => wp_BM_isDigit r18 A17 (fun (r20 : Bool) (A19 : Mem) => ((r20 = true → (∃ n9 : Nat, wp_Pa_numeral_c95 K n9 x0 (bI r15) 0 A19)) ∧ (r20 = false → K false A19)))))))
def wp_Pa_numeral_c19 (K : Bool → Mem → Prop) : Nat → Nat → Int32 → Mem → Prop
  | 0, _, _, _ => False
  | n + 1, x0, x1, A => ((6 ≤ x1 → wp_Pa_numeral_c70 K x0 A) ∧ (¬ 6 ≤ x1 → kd x0 = 2 ∧ wp_Pa_next x0 A (fun (r7 : Int32) (A6 : Mem) => wp_BM_isDigit r7 A6 (fun (r10 : Bool) (A9 : Mem) => ((r10 = false → wp_Pa_numeral_c70 K x0 A9) ∧ (r10 = true → wp_Pa_next x0 A9 (fun (r12 : Int32) (A11 : Mem) => ∀ A13 : Mem, A13 = (sI (sI A11 x0 5 ((((gI A9 x0 5) * 10) + r12) - 48)) x0 1 ((gI (sI A11 x0 5 ((((gI A9 x0 5) * 10) + r12) - 48)) x0 1) + 1)) → wp_Pa_numeral_c19 K n x0 (x1 + 1) A13)))))))
def wp_Pa_numeral (o : Nat) (A : Mem) (K : Bool → Mem → Prop) : Prop := kd o = 2 ∧ wp_Pa_next o A (fun (r2 : Int32) (A1 : Mem) => wp_BM_isDigit r2 A1 (fun (r5 : Bool) (A4 : Mem) => ((r5 = true → (∃ n9 : Nat, wp_Pa_numeral_c19 K n9 o 0 (sI A4 o 5 0))) ∧ (r5 = false → K false A4))))
set_option maxRecDepth 100000 in
set_option maxHeartbeats 4000000 in
theorem k_Pa_numeral_c143 {X : CXT} {E : EVT} {K : Bool → Mem → Prop} {J95 : Nat → Int32 → Int32 → Mem → Prop} (hX : Gd X E "BasicMachine$Parser" prog_10_method_17_code) (hR : Rm X 1 21) (hN : xnL X = 4) (hQ : QZ X E K) (hJ95 : ∀ (x0 : Nat) (x1 : Int32) (x2 : Int32) (A : Mem), J95 x0 x1 x2 A → G X E A 95 [(0, cr E x0), (1, .int (x1)), (2, .int (x2))] []) (x0 : Nat) (x1 : Int32) (x2 : Int32) (x3 : Int32) (s0 : Int32) (s1 : Int32) (s2 : Nat) (A : Mem) (h : wp_Pa_numeral_c143 J95 K x0 x1 x2 x3 s0 s1 s2 A) : G X E A 143 [(0, cr E x0), (1, .int (x1)), (2, .int (x2)), (3, .int (x3))] [.int (s0), .int (s1), cr E s2] := by
  unfold wp_Pa_numeral_c143 at h
  refine g_iadd (pc := 143) hX d_Pa_numeral_143 ?_
  obtain ⟨f29, h⟩ := h
  refine g_putI (pc := 144) hX fl_Pa_40 rfl rfl rfl f29 d_Pa_numeral_144 ?_
  refine g_aload_n (pc := 147) hX d_Pa_numeral_147 rfl 0 rfl ?_
  refine g_dup (pc := 148) hX d_Pa_numeral_148 (cr_cat _ _) ?_
  obtain ⟨f30, h⟩ := h
  refine g_getI (pc := 149) hX fl_Pa_26 rfl f30 d_Pa_numeral_149 ?_
  refine g_iload_n (pc := 152) hX d_Pa_numeral_152 rfl 3 rfl ?_
  refine g_if_eq (pc := 153) (tgt := 160) hX d_Pa_numeral_153 (by decide) (fun q => ?_) (fun q => ?_)
  · have h := h.1 q
    refine g_iconst (pc := 160) (v := 0) hX d_Pa_numeral_160 (by decide) ?_
    refine g_iadd (pc := 161) hX d_Pa_numeral_161 ?_
    refine g_putI (pc := 162) hX fl_Pa_26 rfl rfl rfl f30 d_Pa_numeral_162 ?_
    refine g_iinc (pc := 165) (v := (x2 + 1)) (lv0 := [(1, .int (x1)), (0, cr E x0), (3, .int (x3))]) hX d_Pa_numeral_165 2 rfl rfl (by rw [hN]; decide) (g_st1b (ks := [1, 0, 3]) rfl rfl rfl rfl) ?_
    refine g_goto (pc := 168) (tgt := 95) hX d_Pa_numeral_168 (by decide) ?_
    refine g_sub [2, 1, 0] rfl ?_
    exact hJ95 _ _ _ _ h
  · have h := h.2 q
    refine g_iconst (pc := 156) (v := 1) hX d_Pa_numeral_156 (by decide) ?_
    refine g_goto (pc := 157) (tgt := 161) hX d_Pa_numeral_157 (by decide) ?_
    refine g_iadd (pc := 161) hX d_Pa_numeral_161 ?_
    refine g_putI (pc := 162) hX fl_Pa_26 rfl rfl rfl f30 d_Pa_numeral_162 ?_
    refine g_iinc (pc := 165) (v := (x2 + 1)) (lv0 := [(1, .int (x1)), (0, cr E x0), (3, .int (x3))]) hX d_Pa_numeral_165 2 rfl rfl (by rw [hN]; decide) (g_st1b (ks := [1, 0, 3]) rfl rfl rfl rfl) ?_
    refine g_goto (pc := 168) (tgt := 95) hX d_Pa_numeral_168 (by decide) ?_
    refine g_sub [2, 1, 0] rfl ?_
    exact hJ95 _ _ _ _ h
set_option maxRecDepth 100000 in
set_option maxHeartbeats 4000000 in
theorem k_Pa_numeral_c119 {X : CXT} {E : EVT} {K : Bool → Mem → Prop} {J95 : Nat → Int32 → Int32 → Mem → Prop} (hX : Gd X E "BasicMachine$Parser" prog_10_method_17_code) (hR : Rm X 1 21) (hN : xnL X = 4) (hQ : QZ X E K) (hJ95 : ∀ (x0 : Nat) (x1 : Int32) (x2 : Int32) (A : Mem), J95 x0 x1 x2 A → G X E A 95 [(0, cr E x0), (1, .int (x1)), (2, .int (x2))] []) (x0 : Nat) (x1 : Int32) (x2 : Int32) (s0 : Int32) (A : Mem) (h : wp_Pa_numeral_c119 J95 K x0 x1 x2 s0 A) : G X E A 119 [(0, cr E x0), (1, .int (x1)), (2, .int (x2))] [.int (s0)] := by
  unfold wp_Pa_numeral_c119 at h
  refine g_istore_n (pc := 119) (lv0 := [(2, .int (x2)), (0, cr E x0), (1, .int (x1))]) hX d_Pa_numeral_119 rfl (by rw [hN]; decide) (g_st1b (ks := [2, 0, 1]) rfl rfl rfl rfl) ?_
  refine g_aload_n (pc := 120) hX d_Pa_numeral_120 rfl 2 rfl ?_
  refine g_aload_n (pc := 121) hX d_Pa_numeral_121 rfl 2 rfl ?_
  obtain ⟨f26, h⟩ := h
  refine g_getI (pc := 122) hX fl_Pa_40 rfl f26 d_Pa_numeral_122 ?_
  refine g_bipush (pc := 125) (v := 10) hX d_Pa_numeral_125 (by decide) ?_
  refine g_imul (pc := 127) hX d_Pa_numeral_127 ?_
  refine g_iload_n (pc := 128) hX d_Pa_numeral_128 rfl 0 rfl ?_
  refine g_if_eq (pc := 129) (tgt := 142) hX d_Pa_numeral_129 (by decide) (fun q => ?_) (fun q => ?_)
  · have h := h.1 q
    refine g_iconst (pc := 142) (v := 0) hX d_Pa_numeral_142 (by decide) ?_
    refine g_sub [2, 3, 1, 0] rfl ?_
    exact k_Pa_numeral_c143 hX hR hN hQ hJ95 _ _ _ _ _ _ _ _ h
  · have h := h.2 q
    refine g_aload_n (pc := 132) hX d_Pa_numeral_132 rfl 2 rfl ?_
    refine g_callV_I (pc := 133) hX hR f26 cf2 rfl lk_Pa_157 mf_Pa_next (c_Pa_next _ _ _ h) rfl rfl rfl ⟨by decide, by decide⟩ (cat_sum _ (Nat.le_of_ble_eq_true rfl)) d_Pa_numeral_133 (fun r28 A27 h => ?_)
    refine g_bipush (pc := 136) (v := 48) hX d_Pa_numeral_136 (by decide) ?_
    refine g_isub (pc := 138) hX d_Pa_numeral_138 ?_
    refine g_goto (pc := 139) (tgt := 143) hX d_Pa_numeral_139 (by decide) ?_
    refine g_sub [2, 3, 1, 0] rfl ?_
    exact k_Pa_numeral_c143 hX hR hN hQ hJ95 _ _ _ _ _ _ _ _ h
set_option maxRecDepth 100000 in
set_option maxHeartbeats 4000000 in
theorem k_Pa_numeral_c95 {X : CXT} {E : EVT} {K : Bool → Mem → Prop} (hX : Gd X E "BasicMachine$Parser" prog_10_method_17_code) (hR : Rm X 1 21) (hN : xnL X = 4) (hQ : QZ X E K) : ∀ (n : Nat) (x0 : Nat) (x1 : Int32) (x2 : Int32) (A : Mem), wp_Pa_numeral_c95 K n x0 x1 x2 A → G X E A 95 [(0, cr E x0), (1, .int (x1)), (2, .int (x2))] [] := by
  intro n
  induction n with
  | zero => intro x0 x1 x2 A h; exact h.elim
  | succ n ih =>
    intro x0 x1 x2 A h
    rw [wp_Pa_numeral_c95] at h
    refine g_iload_n (pc := 95) hX d_Pa_numeral_95 rfl 2 rfl ?_
    refine g_iconst (pc := 96) (v := 3) hX d_Pa_numeral_96 (by decide) ?_
    refine g_icmp_ge (pc := 97) (tgt := 171) hX d_Pa_numeral_97 (by decide) (fun q => ?_) (fun q => ?_)
    · have h := h.1 q
      refine g_iconst (pc := 171) (v := 1) hX d_Pa_numeral_171 (by decide) ?_
      exact g_zret hX hQ true rfl h d_Pa_numeral_172
    · have h := h.2 q
      refine g_iload_n (pc := 100) hX d_Pa_numeral_100 rfl 1 rfl ?_
      refine g_if_eq (pc := 101) (tgt := 118) hX d_Pa_numeral_101 (by decide) (fun q => ?_) (fun q => ?_)
      · have h := h.1 q
        refine g_iconst (pc := 118) (v := 0) hX d_Pa_numeral_118 (by decide) ?_
        refine g_sub [0, 1, 2] rfl ?_
        exact k_Pa_numeral_c119 hX hR hN hQ ih _ _ _ _ _ h
      · have h := h.2 q
        refine g_aload_n (pc := 104) hX d_Pa_numeral_104 rfl 0 rfl ?_
        obtain ⟨f23, h⟩ := h
        refine g_callV_I (pc := 105) hX hR f23 cf2 rfl lk_Pa_157 mf_Pa_next (c_Pa_next _ _ _ h) rfl rfl rfl ⟨by decide, by decide⟩ (cat_sum _ (Nat.le_of_ble_eq_true rfl)) d_Pa_numeral_105 (fun r22 A21 h => ?_)
        refine g_callSN_Z (pc := 108) hX hR lk_Pa_160 mf_BM_isDigit (c_BM_isDigit _ _ _ h) rfl rfl rfl ⟨by decide, by decide⟩ (cat_sum _ (Nat.le_of_ble_eq_true rfl)) d_Pa_numeral_108 (fun r25 A24 h => ?_)
        refine g_ifB_eq (pc := 111) (tgt := 118) hX d_Pa_numeral_111 (by decide) (fun q => ?_) (fun q => ?_)
        · have h := h.1 q
          refine g_iconst (pc := 118) (v := 0) hX d_Pa_numeral_118 (by decide) ?_
          refine g_sub [0, 1, 2] rfl ?_
          exact k_Pa_numeral_c119 hX hR hN hQ ih _ _ _ _ _ h
        · have h := h.2 q
          refine g_iconst (pc := 114) (v := 1) hX d_Pa_numeral_114 (by decide) ?_
          refine g_goto (pc := 115) (tgt := 119) hX d_Pa_numeral_115 (by decide) ?_
          refine g_sub [0, 1, 2] rfl ?_
          exact k_Pa_numeral_c119 hX hR hN hQ ih _ _ _ _ _ h
set_option maxRecDepth 100000 in
set_option maxHeartbeats 4000000 in
theorem k_Pa_numeral_c70 {X : CXT} {E : EVT} {K : Bool → Mem → Prop} (hX : Gd X E "BasicMachine$Parser" prog_10_method_17_code) (hR : Rm X 1 21) (hN : xnL X = 4) (hQ : QZ X E K) (x0 : Nat) (A : Mem) (h : wp_Pa_numeral_c70 K x0 A) : G X E A 70 [(0, cr E x0)] [] := by
  unfold wp_Pa_numeral_c70 at h
  refine g_aload_n (pc := 70) hX d_Pa_numeral_70 rfl 0 rfl ?_
  refine g_bipush (pc := 71) (v := 46) hX d_Pa_numeral_71 (by decide) ?_
  obtain ⟨f16, h⟩ := h
  refine g_callV_Z (pc := 73) hX hR f16 cf2 rfl lk_Pa_68 mf_Pa_skip (c_Pa_skip _ _ _ _ h) rfl rfl rfl ⟨by decide, by decide⟩ (cat_sum _ (Nat.le_of_ble_eq_true rfl)) d_Pa_numeral_73 (fun r15 A14 h => ?_)
  refine g_istore_n (pc := 76) (lv0 := [(0, cr E x0)]) hX d_Pa_numeral_76 rfl (by rw [hN]; decide) (g_st1b (ks := [0]) rfl (cr_cat _ _) rfl rfl) ?_
  refine g_iload_n (pc := 77) hX d_Pa_numeral_77 rfl 0 rfl ?_
  refine g_ifB_eq (pc := 78) (tgt := 93) hX d_Pa_numeral_78 (by decide) (fun q => ?_) (fun q => ?_)
  · have h := h.1 q
    refine g_iconst (pc := 93) (v := 0) hX d_Pa_numeral_93 (by decide) ?_
    refine g_istore_n (pc := 94) (lv0 := [(1, .int (bI r15)), (0, cr E x0)]) hX d_Pa_numeral_94 rfl (by rw [hN]; decide) (g_st1b (ks := [0, 1]) rfl rfl rfl rfl) ?_
    refine g_sub [2, 1, 0] rfl ?_
    obtain ⟨n9, h⟩ := h
    exact k_Pa_numeral_c95 hX hR hN hQ n9 _ _ _ _ h
  · have h := h.2 q
    refine g_aload_n (pc := 81) hX d_Pa_numeral_81 rfl 1 rfl ?_
    refine g_callV_I (pc := 82) hX hR f16 cf2 rfl lk_Pa_157 mf_Pa_next (c_Pa_next _ _ _ h) rfl rfl rfl ⟨by decide, by decide⟩ (cat_sum _ (Nat.le_of_ble_eq_true rfl)) d_Pa_numeral_82 (fun r18 A17 h => ?_)
    refine g_callSN_Z (pc := 85) hX hR lk_Pa_160 mf_BM_isDigit (c_BM_isDigit _ _ _ h) rfl rfl rfl ⟨by decide, by decide⟩ (cat_sum _ (Nat.le_of_ble_eq_true rfl)) d_Pa_numeral_85 (fun r20 A19 h => ?_)
    refine g_ifB_ne (pc := 88) (tgt := 93) hX d_Pa_numeral_88 (by decide) (fun q => ?_) (fun q => ?_)
    · have h := h.1 q
      refine g_iconst (pc := 93) (v := 0) hX d_Pa_numeral_93 (by decide) ?_
      refine g_istore_n (pc := 94) (lv0 := [(1, .int (bI r15)), (0, cr E x0)]) hX d_Pa_numeral_94 rfl (by rw [hN]; decide) (g_st1b (ks := [0, 1]) rfl rfl rfl rfl) ?_
      refine g_sub [2, 1, 0] rfl ?_
      obtain ⟨n9, h⟩ := h
      exact k_Pa_numeral_c95 hX hR hN hQ n9 _ _ _ _ h
    · have h := h.2 q
      refine g_iconst (pc := 91) (v := 0) hX d_Pa_numeral_91 (by decide) ?_
      exact g_zret hX hQ false rfl h d_Pa_numeral_92
set_option maxRecDepth 100000 in
set_option maxHeartbeats 4000000 in
theorem k_Pa_numeral_c19 {X : CXT} {E : EVT} {K : Bool → Mem → Prop} (hX : Gd X E "BasicMachine$Parser" prog_10_method_17_code) (hR : Rm X 1 21) (hN : xnL X = 4) (hQ : QZ X E K) : ∀ (n : Nat) (x0 : Nat) (x1 : Int32) (A : Mem), wp_Pa_numeral_c19 K n x0 x1 A → G X E A 19 [(0, cr E x0), (1, .int (x1))] [] := by
  intro n
  induction n with
  | zero => intro x0 x1 A h; exact h.elim
  | succ n ih =>
    intro x0 x1 A h
    rw [wp_Pa_numeral_c19] at h
    refine g_iload_n (pc := 19) hX d_Pa_numeral_19 rfl 1 rfl ?_
    refine g_bipush (pc := 20) (v := 6) hX d_Pa_numeral_20 (by decide) ?_
    refine g_icmp_ge (pc := 22) (tgt := 70) hX d_Pa_numeral_22 (by decide) (fun q => ?_) (fun q => ?_)
    · have h := h.1 q
      refine g_sub [0] rfl ?_
      exact k_Pa_numeral_c70 hX hR hN hQ _ _ h
    · have h := h.2 q
      refine g_aload_n (pc := 25) hX d_Pa_numeral_25 rfl 0 rfl ?_
      obtain ⟨f8, h⟩ := h
      refine g_callV_I (pc := 26) hX hR f8 cf2 rfl lk_Pa_157 mf_Pa_next (c_Pa_next _ _ _ h) rfl rfl rfl ⟨by decide, by decide⟩ (cat_sum _ (Nat.le_of_ble_eq_true rfl)) d_Pa_numeral_26 (fun r7 A6 h => ?_)
      refine g_callSN_Z (pc := 29) hX hR lk_Pa_160 mf_BM_isDigit (c_BM_isDigit _ _ _ h) rfl rfl rfl ⟨by decide, by decide⟩ (cat_sum _ (Nat.le_of_ble_eq_true rfl)) d_Pa_numeral_29 (fun r10 A9 h => ?_)
      refine g_ifB_eq (pc := 32) (tgt := 70) hX d_Pa_numeral_32 (by decide) (fun q => ?_) (fun q => ?_)
      · have h := h.1 q
        refine g_sub [0] rfl ?_
        exact k_Pa_numeral_c70 hX hR hN hQ _ _ h
      · have h := h.2 q
        refine g_aload_n (pc := 35) hX d_Pa_numeral_35 rfl 0 rfl ?_
        refine g_aload_n (pc := 36) hX d_Pa_numeral_36 rfl 0 rfl ?_
        refine g_getI (pc := 37) hX fl_Pa_40 rfl f8 d_Pa_numeral_37 ?_
        refine g_bipush (pc := 40) (v := 10) hX d_Pa_numeral_40 (by decide) ?_
        refine g_imul (pc := 42) hX d_Pa_numeral_42 ?_
        refine g_aload_n (pc := 43) hX d_Pa_numeral_43 rfl 0 rfl ?_
        refine g_callV_I (pc := 44) hX hR f8 cf2 rfl lk_Pa_157 mf_Pa_next (c_Pa_next _ _ _ h) rfl rfl rfl ⟨by decide, by decide⟩ (cat_sum _ (Nat.le_of_ble_eq_true rfl)) d_Pa_numeral_44 (fun r12 A11 h => ?_)
        refine g_iadd (pc := 47) hX d_Pa_numeral_47 ?_
        refine g_bipush (pc := 48) (v := 48) hX d_Pa_numeral_48 (by decide) ?_
        refine g_isub (pc := 50) hX d_Pa_numeral_50 ?_
        refine g_putI (pc := 51) hX fl_Pa_40 rfl rfl rfl f8 d_Pa_numeral_51 ?_
        refine g_aload_n (pc := 54) hX d_Pa_numeral_54 rfl 0 rfl ?_
        refine g_dup (pc := 55) hX d_Pa_numeral_55 (cr_cat _ _) ?_
        refine g_getI (pc := 56) hX fl_Pa_26 rfl f8 d_Pa_numeral_56 ?_
        refine g_iconst (pc := 59) (v := 1) hX d_Pa_numeral_59 (by decide) ?_
        refine g_iadd (pc := 60) hX d_Pa_numeral_60 ?_
        refine g_putI (pc := 61) hX fl_Pa_26 rfl rfl rfl f8 d_Pa_numeral_61 ?_
        refine g_nm (fun A13 eA13 => ?_)
        have h := h A13 eA13
        refine g_iinc (pc := 64) (v := (x1 + 1)) (lv0 := [(0, cr E x0)]) hX d_Pa_numeral_64 1 rfl rfl (by rw [hN]; decide) (g_st1b (ks := [0]) rfl (cr_cat _ _) rfl rfl) ?_
        refine g_goto (pc := 67) (tgt := 19) hX d_Pa_numeral_67 (by decide) ?_
        refine g_sub [1, 0] rfl ?_
        exact ih _ _ _ h
set_option maxRecDepth 100000 in
set_option maxHeartbeats 4000000 in
theorem c_Pa_numeral (o : Nat) (A : Mem) (K : Bool → Mem → Prop) (h : wp_Pa_numeral o A K) : CtZ y_Pa_numeral prog_10_method_17_code 4 1 21 (fun E => [cr E o]) A K := by
  refine ctZ_of "BasicMachine$Parser" (by decide) rfl (fun E => [(0, cr E o)]) (fun E => by simp [lg_sl, cr_cat, ca_i, ca_l, ca_d]) (fun E => by simp [lv_args, cr_cat, ca_i, ca_l, ca_d]) (fun X E hX hR hN hQ => ?_)
  unfold wp_Pa_numeral at h
  refine g_aload_n (pc := 0) hX d_Pa_numeral_0 rfl 0 rfl ?_
  obtain ⟨f3, h⟩ := h
  refine g_callV_I (pc := 1) hX hR f3 cf2 rfl lk_Pa_157 mf_Pa_next (c_Pa_next _ _ _ h) rfl rfl rfl ⟨by decide, by decide⟩ (cat_sum _ (Nat.le_of_ble_eq_true rfl)) d_Pa_numeral_1 (fun r2 A1 h => ?_)
  refine g_callSN_Z (pc := 4) hX hR lk_Pa_160 mf_BM_isDigit (c_BM_isDigit _ _ _ h) rfl rfl rfl ⟨by decide, by decide⟩ (cat_sum _ (Nat.le_of_ble_eq_true rfl)) d_Pa_numeral_4 (fun r5 A4 h => ?_)
  refine g_ifB_ne (pc := 7) (tgt := 12) hX d_Pa_numeral_7 (by decide) (fun q => ?_) (fun q => ?_)
  · have h := h.1 q
    refine g_aload_n (pc := 12) hX d_Pa_numeral_12 rfl 0 rfl ?_
    refine g_iconst (pc := 13) (v := 0) hX d_Pa_numeral_13 (by decide) ?_
    refine g_putI (pc := 14) hX fl_Pa_40 rfl rfl rfl f3 d_Pa_numeral_14 ?_
    refine g_iconst (pc := 17) (v := 0) hX d_Pa_numeral_17 (by decide) ?_
    refine g_istore_n (pc := 18) (lv0 := [(0, cr E o)]) hX d_Pa_numeral_18 rfl (by rw [hN]; decide) (g_st1b (ks := [0]) rfl (cr_cat _ _) rfl rfl) ?_
    refine g_sub [1, 0] rfl ?_
    obtain ⟨n9, h⟩ := h
    exact k_Pa_numeral_c19 hX hR hN hQ n9 _ _ _ h
  · have h := h.2 q
    refine g_iconst (pc := 10) (v := 0) hX d_Pa_numeral_10 (by decide) ?_
    exact g_zret hX hQ false rfl h d_Pa_numeral_11
def wp_Pa_simple (o : Nat) (A : Mem) (K : Bool → Mem → Prop) : Prop := kd o = 2 ∧ wp_Pa_next o A (fun (r2 : Int32) (A1 : Mem) => wp_BM_isVariable r2 A1 (fun (r5 : Bool) (A4 : Mem) => ((r5 = true → wp_Pa_next o A4 (fun (r7 : Int32) (A6 : Mem) => kd (gR A4 o 0) = 3 ∧ K true (sI (sI A6 (gR A4 o 0) 3 (r7 - 65)) o 1 ((gI (sI A6 (gR A4 o 0) 3 (r7 - 65)) o 1) + 1)))) ∧ (r5 = false → K false A4))))
set_option maxRecDepth 100000 in
set_option maxHeartbeats 4000000 in
theorem c_Pa_simple (o : Nat) (A : Mem) (K : Bool → Mem → Prop) (h : wp_Pa_simple o A K) : CtZ y_Pa_simple prog_10_method_19_code 1 1 20 (fun E => [cr E o]) A K := by
  refine ctZ_of "BasicMachine$Parser" (by decide) rfl (fun E => [(0, cr E o)]) (fun E => by simp [lg_sl, cr_cat, ca_i, ca_l, ca_d]) (fun E => by simp [lv_args, cr_cat, ca_i, ca_l, ca_d]) (fun X E hX hR hN hQ => ?_)
  unfold wp_Pa_simple at h
  refine g_aload_n (pc := 0) hX d_Pa_simple_0 rfl 0 rfl ?_
  obtain ⟨f3, h⟩ := h
  refine g_callV_I (pc := 1) hX hR f3 cf2 rfl lk_Pa_157 mf_Pa_next (c_Pa_next _ _ _ h) rfl rfl rfl ⟨by decide, by decide⟩ (cat_sum _ (Nat.le_of_ble_eq_true rfl)) d_Pa_simple_1 (fun r2 A1 h => ?_)
  refine g_callSN_Z (pc := 4) hX hR lk_Pa_174 mf_BM_isVariable (c_BM_isVariable _ _ _ h) rfl rfl rfl ⟨by decide, by decide⟩ (cat_sum _ (Nat.le_of_ble_eq_true rfl)) d_Pa_simple_4 (fun r5 A4 h => ?_)
  refine g_ifB_ne (pc := 7) (tgt := 12) hX d_Pa_simple_7 (by decide) (fun q => ?_) (fun q => ?_)
  · have h := h.1 q
    refine g_aload_n (pc := 12) hX d_Pa_simple_12 rfl 0 rfl ?_
    refine g_getR (pc := 13) hX fl_Pa_12 rfl f3 d_Pa_simple_13 ?_
    refine g_aload_n (pc := 16) hX d_Pa_simple_16 rfl 0 rfl ?_
    refine g_callV_I (pc := 17) hX hR f3 cf2 rfl lk_Pa_157 mf_Pa_next (c_Pa_next _ _ _ h) rfl rfl rfl ⟨by decide, by decide⟩ (cat_sum _ (Nat.le_of_ble_eq_true rfl)) d_Pa_simple_17 (fun r7 A6 h => ?_)
    refine g_bipush (pc := 20) (v := 65) hX d_Pa_simple_20 (by decide) ?_
    refine g_isub (pc := 22) hX d_Pa_simple_22 ?_
    obtain ⟨f8, h⟩ := h
    refine g_putI (pc := 23) hX fl_Pa_177 rfl rfl rfl f8 d_Pa_simple_23 ?_
    refine g_aload_n (pc := 26) hX d_Pa_simple_26 rfl 0 rfl ?_
    refine g_dup (pc := 27) hX d_Pa_simple_27 (cr_cat _ _) ?_
    refine g_getI (pc := 28) hX fl_Pa_26 rfl f3 d_Pa_simple_28 ?_
    refine g_iconst (pc := 31) (v := 1) hX d_Pa_simple_31 (by decide) ?_
    refine g_iadd (pc := 32) hX d_Pa_simple_32 ?_
    refine g_putI (pc := 33) hX fl_Pa_26 rfl rfl rfl f3 d_Pa_simple_33 ?_
    refine g_iconst (pc := 36) (v := 1) hX d_Pa_simple_36 (by decide) ?_
    exact g_zret hX hQ true rfl h d_Pa_simple_37
  · have h := h.2 q
    refine g_iconst (pc := 10) (v := 0) hX d_Pa_simple_10 (by decide) ?_
    exact g_zret hX hQ false rfl h d_Pa_simple_11
def wp_Pa_matrix (o : Nat) (A : Mem) (K : Bool → Mem → Prop) : Prop := kd o = 2 ∧ wp_Pa_next o A (fun (r2 : Int32) (A1 : Mem) => wp_BM_isMatrix r2 A1 (fun (r5 : Bool) (A4 : Mem) => ((r5 = true → wp_Pa_next o A4 (fun (r7 : Int32) (A6 : Mem) => kd (gR A4 o 0) = 3 ∧ K true (sI (sI A6 (gR A4 o 0) 3 (r7 - 80)) o 1 ((gI (sI A6 (gR A4 o 0) 3 (r7 - 80)) o 1) + 1)))) ∧ (r5 = false → K false A4))))
set_option maxRecDepth 100000 in
set_option maxHeartbeats 4000000 in
theorem c_Pa_matrix (o : Nat) (A : Mem) (K : Bool → Mem → Prop) (h : wp_Pa_matrix o A K) : CtZ y_Pa_matrix prog_10_method_20_code 1 1 20 (fun E => [cr E o]) A K := by
  refine ctZ_of "BasicMachine$Parser" (by decide) rfl (fun E => [(0, cr E o)]) (fun E => by simp [lg_sl, cr_cat, ca_i, ca_l, ca_d]) (fun E => by simp [lv_args, cr_cat, ca_i, ca_l, ca_d]) (fun X E hX hR hN hQ => ?_)
  unfold wp_Pa_matrix at h
  refine g_aload_n (pc := 0) hX d_Pa_matrix_0 rfl 0 rfl ?_
  obtain ⟨f3, h⟩ := h
  refine g_callV_I (pc := 1) hX hR f3 cf2 rfl lk_Pa_157 mf_Pa_next (c_Pa_next _ _ _ h) rfl rfl rfl ⟨by decide, by decide⟩ (cat_sum _ (Nat.le_of_ble_eq_true rfl)) d_Pa_matrix_1 (fun r2 A1 h => ?_)
  refine g_callSN_Z (pc := 4) hX hR lk_Pa_180 mf_BM_isMatrix (c_BM_isMatrix _ _ _ h) rfl rfl rfl ⟨by decide, by decide⟩ (cat_sum _ (Nat.le_of_ble_eq_true rfl)) d_Pa_matrix_4 (fun r5 A4 h => ?_)
  refine g_ifB_ne (pc := 7) (tgt := 12) hX d_Pa_matrix_7 (by decide) (fun q => ?_) (fun q => ?_)
  · have h := h.1 q
    refine g_aload_n (pc := 12) hX d_Pa_matrix_12 rfl 0 rfl ?_
    refine g_getR (pc := 13) hX fl_Pa_12 rfl f3 d_Pa_matrix_13 ?_
    refine g_aload_n (pc := 16) hX d_Pa_matrix_16 rfl 0 rfl ?_
    refine g_callV_I (pc := 17) hX hR f3 cf2 rfl lk_Pa_157 mf_Pa_next (c_Pa_next _ _ _ h) rfl rfl rfl ⟨by decide, by decide⟩ (cat_sum _ (Nat.le_of_ble_eq_true rfl)) d_Pa_matrix_17 (fun r7 A6 h => ?_)
    refine g_bipush (pc := 20) (v := 80) hX d_Pa_matrix_20 (by decide) ?_
    refine g_isub (pc := 22) hX d_Pa_matrix_22 ?_
    obtain ⟨f8, h⟩ := h
    refine g_putI (pc := 23) hX fl_Pa_177 rfl rfl rfl f8 d_Pa_matrix_23 ?_
    refine g_aload_n (pc := 26) hX d_Pa_matrix_26 rfl 0 rfl ?_
    refine g_dup (pc := 27) hX d_Pa_matrix_27 (cr_cat _ _) ?_
    refine g_getI (pc := 28) hX fl_Pa_26 rfl f3 d_Pa_matrix_28 ?_
    refine g_iconst (pc := 31) (v := 1) hX d_Pa_matrix_31 (by decide) ?_
    refine g_iadd (pc := 32) hX d_Pa_matrix_32 ?_
    refine g_putI (pc := 33) hX fl_Pa_26 rfl rfl rfl f3 d_Pa_matrix_33 ?_
    refine g_iconst (pc := 36) (v := 1) hX d_Pa_matrix_36 (by decide) ?_
    exact g_zret hX hQ true rfl h d_Pa_matrix_37
  · have h := h.2 q
    refine g_iconst (pc := 10) (v := 0) hX d_Pa_matrix_10 (by decide) ?_
    exact g_zret hX hQ false rfl h d_Pa_matrix_11
def wp_Pa_function (o : Nat) (A : Mem) (K : Bool → Mem → Prop) : Prop := kd o = 2 ∧ wp_Pa_next o A (fun (r2 : Int32) (A1 : Mem) => wp_BM_isFunction r2 A1 (fun (r5 : Bool) (A4 : Mem) => ((r5 = true → wp_Pa_next o A4 (fun (r7 : Int32) (A6 : Mem) => kd (gR A4 o 0) = 3 ∧ K true (sI (sI A6 (gR A4 o 0) 5 (r7 - 65)) o 1 ((gI (sI A6 (gR A4 o 0) 5 (r7 - 65)) o 1) + 1)))) ∧ (r5 = false → K false A4))))
set_option maxRecDepth 100000 in
set_option maxHeartbeats 4000000 in
theorem c_Pa_function (o : Nat) (A : Mem) (K : Bool → Mem → Prop) (h : wp_Pa_function o A K) : CtZ y_Pa_function prog_10_method_21_code 1 1 20 (fun E => [cr E o]) A K := by
  refine ctZ_of "BasicMachine$Parser" (by decide) rfl (fun E => [(0, cr E o)]) (fun E => by simp [lg_sl, cr_cat, ca_i, ca_l, ca_d]) (fun E => by simp [lv_args, cr_cat, ca_i, ca_l, ca_d]) (fun X E hX hR hN hQ => ?_)
  unfold wp_Pa_function at h
  refine g_aload_n (pc := 0) hX d_Pa_function_0 rfl 0 rfl ?_
  obtain ⟨f3, h⟩ := h
  refine g_callV_I (pc := 1) hX hR f3 cf2 rfl lk_Pa_157 mf_Pa_next (c_Pa_next _ _ _ h) rfl rfl rfl ⟨by decide, by decide⟩ (cat_sum _ (Nat.le_of_ble_eq_true rfl)) d_Pa_function_1 (fun r2 A1 h => ?_)
  refine g_callSN_Z (pc := 4) hX hR lk_Pa_183 mf_BM_isFunction (c_BM_isFunction _ _ _ h) rfl rfl rfl ⟨by decide, by decide⟩ (cat_sum _ (Nat.le_of_ble_eq_true rfl)) d_Pa_function_4 (fun r5 A4 h => ?_)
  refine g_ifB_ne (pc := 7) (tgt := 12) hX d_Pa_function_7 (by decide) (fun q => ?_) (fun q => ?_)
  · have h := h.1 q
    refine g_aload_n (pc := 12) hX d_Pa_function_12 rfl 0 rfl ?_
    refine g_getR (pc := 13) hX fl_Pa_12 rfl f3 d_Pa_function_13 ?_
    refine g_aload_n (pc := 16) hX d_Pa_function_16 rfl 0 rfl ?_
    refine g_callV_I (pc := 17) hX hR f3 cf2 rfl lk_Pa_157 mf_Pa_next (c_Pa_next _ _ _ h) rfl rfl rfl ⟨by decide, by decide⟩ (cat_sum _ (Nat.le_of_ble_eq_true rfl)) d_Pa_function_17 (fun r7 A6 h => ?_)
    refine g_bipush (pc := 20) (v := 65) hX d_Pa_function_20 (by decide) ?_
    refine g_isub (pc := 22) hX d_Pa_function_22 ?_
    obtain ⟨f8, h⟩ := h
    refine g_putI (pc := 23) hX fl_Pa_186 rfl rfl rfl f8 d_Pa_function_23 ?_
    refine g_aload_n (pc := 26) hX d_Pa_function_26 rfl 0 rfl ?_
    refine g_dup (pc := 27) hX d_Pa_function_27 (cr_cat _ _) ?_
    refine g_getI (pc := 28) hX fl_Pa_26 rfl f3 d_Pa_function_28 ?_
    refine g_iconst (pc := 31) (v := 1) hX d_Pa_function_31 (by decide) ?_
    refine g_iadd (pc := 32) hX d_Pa_function_32 ?_
    refine g_putI (pc := 33) hX fl_Pa_26 rfl rfl rfl f3 d_Pa_function_33 ?_
    refine g_iconst (pc := 36) (v := 1) hX d_Pa_function_36 (by decide) ?_
    exact g_zret hX hQ true rfl h d_Pa_function_37
  · have h := h.2 q
    refine g_iconst (pc := 10) (v := 0) hX d_Pa_function_10 (by decide) ?_
    exact g_zret hX hQ false rfl h d_Pa_function_11
def wp_Pa_operand (o : Nat) (A : Mem) (K : Bool → Mem → Prop) : Prop := kd o = 2 ∧ wp_Pa_next o A (fun (r2 : Int32) (A1 : Mem) => wp_BM_isMatrix r2 A1 (fun (r5 : Bool) (A4 : Mem) => ((r5 = true → wp_Pa_next o A4 (fun (r7 : Int32) (A6 : Mem) => kd (gR A4 o 0) = 3 ∧ wp_Li_addNumber (gR A4 o 0) (r7 - 80) A6 (fun (A8 : Mem) => K true (sI A8 o 1 ((gI A8 o 1) + 1))))) ∧ (r5 = false → K false A4))))
set_option maxRecDepth 100000 in
set_option maxHeartbeats 4000000 in
theorem c_Pa_operand (o : Nat) (A : Mem) (K : Bool → Mem → Prop) (h : wp_Pa_operand o A K) : CtZ y_Pa_operand prog_10_method_27_code 1 1 21 (fun E => [cr E o]) A K := by
  refine ctZ_of "BasicMachine$Parser" (by decide) rfl (fun E => [(0, cr E o)]) (fun E => by simp [lg_sl, cr_cat, ca_i, ca_l, ca_d]) (fun E => by simp [lv_args, cr_cat, ca_i, ca_l, ca_d]) (fun X E hX hR hN hQ => ?_)
  unfold wp_Pa_operand at h
  refine g_aload_n (pc := 0) hX d_Pa_operand_0 rfl 0 rfl ?_
  obtain ⟨f3, h⟩ := h
  refine g_callV_I (pc := 1) hX hR f3 cf2 rfl lk_Pa_157 mf_Pa_next (c_Pa_next _ _ _ h) rfl rfl rfl ⟨by decide, by decide⟩ (cat_sum _ (Nat.le_of_ble_eq_true rfl)) d_Pa_operand_1 (fun r2 A1 h => ?_)
  refine g_callSN_Z (pc := 4) hX hR lk_Pa_180 mf_BM_isMatrix (c_BM_isMatrix _ _ _ h) rfl rfl rfl ⟨by decide, by decide⟩ (cat_sum _ (Nat.le_of_ble_eq_true rfl)) d_Pa_operand_4 (fun r5 A4 h => ?_)
  refine g_ifB_ne (pc := 7) (tgt := 12) hX d_Pa_operand_7 (by decide) (fun q => ?_) (fun q => ?_)
  · have h := h.1 q
    refine g_aload_n (pc := 12) hX d_Pa_operand_12 rfl 0 rfl ?_
    refine g_getR (pc := 13) hX fl_Pa_12 rfl f3 d_Pa_operand_13 ?_
    refine g_aload_n (pc := 16) hX d_Pa_operand_16 rfl 0 rfl ?_
    refine g_callV_I (pc := 17) hX hR f3 cf2 rfl lk_Pa_157 mf_Pa_next (c_Pa_next _ _ _ h) rfl rfl rfl ⟨by decide, by decide⟩ (cat_sum _ (Nat.le_of_ble_eq_true rfl)) d_Pa_operand_17 (fun r7 A6 h => ?_)
    refine g_bipush (pc := 20) (v := 80) hX d_Pa_operand_20 (by decide) ?_
    refine g_isub (pc := 22) hX d_Pa_operand_22 ?_
    obtain ⟨f9, h⟩ := h
    refine g_callV_V (pc := 23) hX hR f9 cf3 rfl lk_Pa_164 mf_Li_addNumber (c_Li_addNumber _ _ _ _ h) rfl rfl rfl ⟨by decide, by decide⟩ (cat_sum _ (Nat.le_of_ble_eq_true rfl)) d_Pa_operand_23 (fun A8 h => ?_)
    refine g_aload_n (pc := 26) hX d_Pa_operand_26 rfl 0 rfl ?_
    refine g_dup (pc := 27) hX d_Pa_operand_27 (cr_cat _ _) ?_
    refine g_getI (pc := 28) hX fl_Pa_26 rfl f3 d_Pa_operand_28 ?_
    refine g_iconst (pc := 31) (v := 1) hX d_Pa_operand_31 (by decide) ?_
    refine g_iadd (pc := 32) hX d_Pa_operand_32 ?_
    refine g_putI (pc := 33) hX fl_Pa_26 rfl rfl rfl f3 d_Pa_operand_33 ?_
    refine g_iconst (pc := 36) (v := 1) hX d_Pa_operand_36 (by decide) ?_
    exact g_zret hX hQ true rfl h d_Pa_operand_37
  · have h := h.2 q
    refine g_iconst (pc := 10) (v := 0) hX d_Pa_operand_10 (by decide) ?_
    exact g_zret hX hQ false rfl h d_Pa_operand_11
def wp_Pa_secondOperand (o : Nat) (A : Mem) (K : Bool → Mem → Prop) : Prop := kd o = 2 ∧ wp_Pa_next o A (fun (r2 : Int32) (A1 : Mem) => ((r2 = 42 → kd (gR A1 o 0) = 3 ∧ wp_Pa_operand o (sI (sR A1 (gR A1 o 0) 7 1106) o 1 ((gI (sR A1 (gR A1 o 0) 7 1106) o 1) + 1)) (fun (r6 : Bool) (A5 : Mem) => K r6 A5)) ∧ (r2 = 43 → kd (gR A1 o 0) = 3 ∧ wp_Pa_operand o (sI (sR A1 (gR A1 o 0) 7 1104) o 1 ((gI (sR A1 (gR A1 o 0) 7 1104) o 1) + 1)) (fun (r9 : Bool) (A8 : Mem) => K r9 A8)) ∧ (r2 = 44 → K true A1) ∧ (r2 = 45 → kd (gR A1 o 0) = 3 ∧ wp_Pa_operand o (sI (sR A1 (gR A1 o 0) 7 1105) o 1 ((gI (sR A1 (gR A1 o 0) 7 1105) o 1) + 1)) (fun (r12 : Bool) (A11 : Mem) => K r12 A11)) ∧ (¬ r2 = 42 → ¬ r2 = 43 → ¬ r2 = 44 → ¬ r2 = 45 → K true A1)))
set_option maxRecDepth 100000 in
set_option maxHeartbeats 4000000 in
theorem c_Pa_secondOperand (o : Nat) (A : Mem) (K : Bool → Mem → Prop) (h : wp_Pa_secondOperand o A K) : CtZ y_Pa_secondOperand prog_10_method_28_code 1 2 41 (fun E => [cr E o]) A K := by
  refine ctZ_of "BasicMachine$Parser" (by decide) rfl (fun E => [(0, cr E o)]) (fun E => by simp [lg_sl, cr_cat, ca_i, ca_l, ca_d]) (fun E => by simp [lv_args, cr_cat, ca_i, ca_l, ca_d]) (fun X E hX hR hN hQ => ?_)
  unfold wp_Pa_secondOperand at h
  refine g_aload_n (pc := 0) hX d_Pa_secondOperand_0 rfl 0 rfl ?_
  obtain ⟨f3, h⟩ := h
  refine g_callV_I (pc := 1) hX hR f3 cf2 rfl lk_Pa_157 mf_Pa_next (c_Pa_next _ _ _ h) rfl rfl rfl ⟨by decide, by decide⟩ (cat_sum _ (Nat.le_of_ble_eq_true rfl)) d_Pa_secondOperand_1 (fun r2 A1 h => ?_)
  by_cases q0 : r2 = 42
  · have h := h.1 q0
    refine g_tabin (pc := 4) (tgt := 62) (off := 58) hX (v := 42) q0 d_Pa_secondOperand_4 (by decide) (by decide) (by decide +kernel) (by decide) ?_
    refine g_aload_n (pc := 62) hX d_Pa_secondOperand_62 rfl 0 rfl ?_
    refine g_getR (pc := 63) hX fl_Pa_12 rfl f3 d_Pa_secondOperand_63 ?_
    refine g_getsE (pc := 66) (i := 6) hX (gSF hX).2.1 (by decide) rfl (by decide) ls_Pa_247 d_Pa_secondOperand_66 ?_
    obtain ⟨f4, h⟩ := h
    refine g_putR (pc := 69) hX fl_Pa_239 rfl rfl rfl f4 d_Pa_secondOperand_69 ?_
    refine g_goto (pc := 72) (tgt := 77) hX d_Pa_secondOperand_72 (by decide) ?_
    refine g_aload_n (pc := 77) hX d_Pa_secondOperand_77 rfl 0 rfl ?_
    refine g_dup (pc := 78) hX d_Pa_secondOperand_78 (cr_cat _ _) ?_
    refine g_getI (pc := 79) hX fl_Pa_26 rfl f3 d_Pa_secondOperand_79 ?_
    refine g_iconst (pc := 82) (v := 1) hX d_Pa_secondOperand_82 (by decide) ?_
    refine g_iadd (pc := 83) hX d_Pa_secondOperand_83 ?_
    refine g_putI (pc := 84) hX fl_Pa_26 rfl rfl rfl f3 d_Pa_secondOperand_84 ?_
    refine g_aload_n (pc := 87) hX d_Pa_secondOperand_87 rfl 0 rfl ?_
    refine g_callV_Z (pc := 88) hX hR f3 cf2 rfl lk_Pa_225 mf_Pa_operand (c_Pa_operand _ _ _ h) rfl rfl rfl ⟨by decide, by decide⟩ (cat_sum _ (Nat.le_of_ble_eq_true rfl)) d_Pa_secondOperand_88 (fun r6 A5 h => ?_)
    exact g_zret hX hQ r6 rfl h d_Pa_secondOperand_91
  by_cases q1 : r2 = 43
  · have h := h.2.1 q1
    refine g_tabin (pc := 4) (tgt := 36) (off := 32) hX (v := 43) q1 d_Pa_secondOperand_4 (by decide) (by decide) (by decide +kernel) (by decide) ?_
    refine g_aload_n (pc := 36) hX d_Pa_secondOperand_36 rfl 0 rfl ?_
    refine g_getR (pc := 37) hX fl_Pa_12 rfl f3 d_Pa_secondOperand_37 ?_
    refine g_getsE (pc := 40) (i := 4) hX (gSF hX).2.1 (by decide) rfl (by decide) ls_Pa_241 d_Pa_secondOperand_40 ?_
    obtain ⟨f7, h⟩ := h
    refine g_putR (pc := 43) hX fl_Pa_239 rfl rfl rfl f7 d_Pa_secondOperand_43 ?_
    refine g_goto (pc := 46) (tgt := 77) hX d_Pa_secondOperand_46 (by decide) ?_
    refine g_aload_n (pc := 77) hX d_Pa_secondOperand_77 rfl 0 rfl ?_
    refine g_dup (pc := 78) hX d_Pa_secondOperand_78 (cr_cat _ _) ?_
    refine g_getI (pc := 79) hX fl_Pa_26 rfl f3 d_Pa_secondOperand_79 ?_
    refine g_iconst (pc := 82) (v := 1) hX d_Pa_secondOperand_82 (by decide) ?_
    refine g_iadd (pc := 83) hX d_Pa_secondOperand_83 ?_
    refine g_putI (pc := 84) hX fl_Pa_26 rfl rfl rfl f3 d_Pa_secondOperand_84 ?_
    refine g_aload_n (pc := 87) hX d_Pa_secondOperand_87 rfl 0 rfl ?_
    refine g_callV_Z (pc := 88) hX hR f3 cf2 rfl lk_Pa_225 mf_Pa_operand (c_Pa_operand _ _ _ h) rfl rfl rfl ⟨by decide, by decide⟩ (cat_sum _ (Nat.le_of_ble_eq_true rfl)) d_Pa_secondOperand_88 (fun r9 A8 h => ?_)
    exact g_zret hX hQ r9 rfl h d_Pa_secondOperand_91
  by_cases q2 : r2 = 44
  · have h := h.2.2.1 q2
    refine g_tabin (pc := 4) (tgt := 75) (off := 71) hX (v := 44) q2 d_Pa_secondOperand_4 (by decide) (by decide) (by decide +kernel) (by decide) ?_
    refine g_iconst (pc := 75) (v := 1) hX d_Pa_secondOperand_75 (by decide) ?_
    exact g_zret hX hQ true rfl h d_Pa_secondOperand_76
  by_cases q3 : r2 = 45
  · have h := h.2.2.2.1 q3
    refine g_tabin (pc := 4) (tgt := 49) (off := 45) hX (v := 45) q3 d_Pa_secondOperand_4 (by decide) (by decide) (by decide +kernel) (by decide) ?_
    refine g_aload_n (pc := 49) hX d_Pa_secondOperand_49 rfl 0 rfl ?_
    refine g_getR (pc := 50) hX fl_Pa_12 rfl f3 d_Pa_secondOperand_50 ?_
    refine g_getsE (pc := 53) (i := 5) hX (gSF hX).2.1 (by decide) rfl (by decide) ls_Pa_244 d_Pa_secondOperand_53 ?_
    obtain ⟨f10, h⟩ := h
    refine g_putR (pc := 56) hX fl_Pa_239 rfl rfl rfl f10 d_Pa_secondOperand_56 ?_
    refine g_goto (pc := 59) (tgt := 77) hX d_Pa_secondOperand_59 (by decide) ?_
    refine g_aload_n (pc := 77) hX d_Pa_secondOperand_77 rfl 0 rfl ?_
    refine g_dup (pc := 78) hX d_Pa_secondOperand_78 (cr_cat _ _) ?_
    refine g_getI (pc := 79) hX fl_Pa_26 rfl f3 d_Pa_secondOperand_79 ?_
    refine g_iconst (pc := 82) (v := 1) hX d_Pa_secondOperand_82 (by decide) ?_
    refine g_iadd (pc := 83) hX d_Pa_secondOperand_83 ?_
    refine g_putI (pc := 84) hX fl_Pa_26 rfl rfl rfl f3 d_Pa_secondOperand_84 ?_
    refine g_aload_n (pc := 87) hX d_Pa_secondOperand_87 rfl 0 rfl ?_
    refine g_callV_Z (pc := 88) hX hR f3 cf2 rfl lk_Pa_225 mf_Pa_operand (c_Pa_operand _ _ _ h) rfl rfl rfl ⟨by decide, by decide⟩ (cat_sum _ (Nat.le_of_ble_eq_true rfl)) d_Pa_secondOperand_88 (fun r12 A11 h => ?_)
    exact g_zret hX hQ r12 rfl h d_Pa_secondOperand_91
  have h := h.2.2.2.2 q0 q1 q2 q3
  refine g_tabout (pc := 4) (tgt := 75) hX (vs := [(42 : Int32), (43 : Int32), (44 : Int32), (45 : Int32)]) (List.forall_mem_cons.mpr ⟨q0, List.forall_mem_cons.mpr ⟨q1, List.forall_mem_cons.mpr ⟨q2, List.forall_mem_cons.mpr ⟨q3, fun _ h9 => absurd h9 List.not_mem_nil⟩⟩⟩⟩) d_Pa_secondOperand_4 (by decide +kernel) (by decide) ?_
  refine g_iconst (pc := 75) (v := 1) hX d_Pa_secondOperand_75 (by decide) ?_
  exact g_zret hX hQ true rfl h d_Pa_secondOperand_76
def wp_Pa_matrixElement (S : Nat → Mem → (Bool → Mem → Prop) → Prop) (o : Nat) (p1 : Int32) (A : Mem) (K : Bool → Mem → Prop) : Prop := kd o = 2 ∧ (((gI A o 4) < 6 → wp_Pa_openBracket o (sI A o 1 ((gI A o 1) + 1)) (fun (r3 : Bool) (A2 : Mem) => ((r3 = false → K false A2) ∧ (r3 = true → S o A2 (fun (r5 : Bool) (A4 : Mem) => ((r5 = false → K false A4) ∧ (r5 = true → wp_Pa_skip o 44 A4 (fun (r7 : Bool) (A6 : Mem) => ((r7 = false → K false A6) ∧ (r7 = true → S o A6 (fun (r9 : Bool) (A8 : Mem) => ((r9 = false → K false A8) ∧ (r9 = true → wp_Pa_closeBracket o A8 (fun (r11 : Bool) (A10 : Mem) => ((r11 = false → K false A10) ∧ (r11 = true → wp_Pa_operation o 2 p1 A10 (fun (r13 : Bool) (A12 : Mem) => ((r13 = false → K false A12) ∧ (r13 = true → K true A12))))))))))))))))))) ∧ (¬ (gI A o 4) < 6 → K false A))
set_option maxRecDepth 100000 in
set_option maxHeartbeats 4000000 in
theorem c_Pa_matrixElement {fr lo : Nat} {S : Nat → Mem → (Bool → Mem → Prop) → Prop} (hS : ∀ (o : Nat) (A : Mem) (K : Bool → Mem → Prop), S o A K → CtZ y_Pa_sum prog_10_method_30_code 5 fr lo (fun E => [cr E o]) A K) (o : Nat) (p1 : Int32) (A : Mem) (K : Bool → Mem → Prop) (h : wp_Pa_matrixElement S o p1 A K) : CtZ y_Pa_matrixElement prog_10_method_38_code 2 (fr + 2) (lo + 44) (fun E => [cr E o, .int (p1)]) A K := by
  refine ctZ_of "BasicMachine$Parser" (by decide) rfl (fun E => [(0, cr E o), (1, .int (p1))]) (fun E => by simp [lg_sl, cr_cat, ca_i, ca_l, ca_d]) (fun E => by simp [lv_args, cr_cat, ca_i, ca_l, ca_d]) (fun X E hX hR hN hQ => ?_)
  unfold wp_Pa_matrixElement at h
  refine g_aload_n (pc := 0) hX d_Pa_matrixElement_0 rfl 0 rfl ?_
  obtain ⟨f1, h⟩ := h
  refine g_getI (pc := 1) hX fl_Pa_30 rfl f1 d_Pa_matrixElement_1 ?_
  refine g_bipush (pc := 4) (v := 6) hX d_Pa_matrixElement_4 (by decide) ?_
  refine g_icmp_lt (pc := 6) (tgt := 11) hX d_Pa_matrixElement_6 (by decide) (fun q => ?_) (fun q => ?_)
  · have h := h.1 q
    refine g_aload_n (pc := 11) hX d_Pa_matrixElement_11 rfl 0 rfl ?_
    refine g_dup (pc := 12) hX d_Pa_matrixElement_12 (cr_cat _ _) ?_
    refine g_getI (pc := 13) hX fl_Pa_26 rfl f1 d_Pa_matrixElement_13 ?_
    refine g_iconst (pc := 16) (v := 1) hX d_Pa_matrixElement_16 (by decide) ?_
    refine g_iadd (pc := 17) hX d_Pa_matrixElement_17 ?_
    refine g_putI (pc := 18) hX fl_Pa_26 rfl rfl rfl f1 d_Pa_matrixElement_18 ?_
    refine g_aload_n (pc := 21) hX d_Pa_matrixElement_21 rfl 0 rfl ?_
    refine g_callV_Z (pc := 22) hX hR f1 cf2 rfl lk_Pa_191 mf_Pa_openBracket (c_Pa_openBracket _ _ _ h) rfl rfl rfl ⟨by omega, by omega⟩ (cat_sum _ (Nat.le_of_ble_eq_true rfl)) d_Pa_matrixElement_22 (fun r3 A2 h => ?_)
    refine g_ifB_eq (pc := 25) (tgt := 71) hX d_Pa_matrixElement_25 (by decide) (fun q => ?_) (fun q => ?_)
    · have h := h.1 q
      refine g_iconst (pc := 71) (v := 0) hX d_Pa_matrixElement_71 (by decide) ?_
      exact g_zret hX hQ false rfl h d_Pa_matrixElement_72
    · have h := h.2 q
      refine g_aload_n (pc := 28) hX d_Pa_matrixElement_28 rfl 0 rfl ?_
      refine g_callV_Z (pc := 29) hX hR f1 cf2 rfl lk_Pa_250 mf_Pa_sum (hS _ _ _ h) rfl rfl rfl ⟨by omega, by omega⟩ (cat_sum _ (Nat.le_of_ble_eq_true rfl)) d_Pa_matrixElement_29 (fun r5 A4 h => ?_)
      refine g_ifB_eq (pc := 32) (tgt := 71) hX d_Pa_matrixElement_32 (by decide) (fun q => ?_) (fun q => ?_)
      · have h := h.1 q
        refine g_iconst (pc := 71) (v := 0) hX d_Pa_matrixElement_71 (by decide) ?_
        exact g_zret hX hQ false rfl h d_Pa_matrixElement_72
      · have h := h.2 q
        refine g_aload_n (pc := 35) hX d_Pa_matrixElement_35 rfl 0 rfl ?_
        refine g_bipush (pc := 36) (v := 44) hX d_Pa_matrixElement_36 (by decide) ?_
        refine g_callV_Z (pc := 38) hX hR f1 cf2 rfl lk_Pa_68 mf_Pa_skip (c_Pa_skip _ _ _ _ h) rfl rfl rfl ⟨by omega, by omega⟩ (cat_sum _ (Nat.le_of_ble_eq_true rfl)) d_Pa_matrixElement_38 (fun r7 A6 h => ?_)
        refine g_ifB_eq (pc := 41) (tgt := 71) hX d_Pa_matrixElement_41 (by decide) (fun q => ?_) (fun q => ?_)
        · have h := h.1 q
          refine g_iconst (pc := 71) (v := 0) hX d_Pa_matrixElement_71 (by decide) ?_
          exact g_zret hX hQ false rfl h d_Pa_matrixElement_72
        · have h := h.2 q
          refine g_aload_n (pc := 44) hX d_Pa_matrixElement_44 rfl 0 rfl ?_
          refine g_callV_Z (pc := 45) hX hR f1 cf2 rfl lk_Pa_250 mf_Pa_sum (hS _ _ _ h) rfl rfl rfl ⟨by omega, by omega⟩ (cat_sum _ (Nat.le_of_ble_eq_true rfl)) d_Pa_matrixElement_45 (fun r9 A8 h => ?_)
          refine g_ifB_eq (pc := 48) (tgt := 71) hX d_Pa_matrixElement_48 (by decide) (fun q => ?_) (fun q => ?_)
          · have h := h.1 q
            refine g_iconst (pc := 71) (v := 0) hX d_Pa_matrixElement_71 (by decide) ?_
            exact g_zret hX hQ false rfl h d_Pa_matrixElement_72
          · have h := h.2 q
            refine g_aload_n (pc := 51) hX d_Pa_matrixElement_51 rfl 0 rfl ?_
            refine g_callV_Z (pc := 52) hX hR f1 cf2 rfl lk_Pa_194 mf_Pa_closeBracket (c_Pa_closeBracket _ _ _ h) rfl rfl rfl ⟨by omega, by omega⟩ (cat_sum _ (Nat.le_of_ble_eq_true rfl)) d_Pa_matrixElement_52 (fun r11 A10 h => ?_)
            refine g_ifB_eq (pc := 55) (tgt := 71) hX d_Pa_matrixElement_55 (by decide) (fun q => ?_) (fun q => ?_)
            · have h := h.1 q
              refine g_iconst (pc := 71) (v := 0) hX d_Pa_matrixElement_71 (by decide) ?_
              exact g_zret hX hQ false rfl h d_Pa_matrixElement_72
            · have h := h.2 q
              refine g_aload_n (pc := 58) hX d_Pa_matrixElement_58 rfl 0 rfl ?_
              refine g_iconst (pc := 59) (v := 2) hX d_Pa_matrixElement_59 (by decide) ?_
              refine g_iload_n (pc := 60) hX d_Pa_matrixElement_60 rfl 1 rfl ?_
              refine g_callV_Z (pc := 61) hX hR f1 cf2 rfl lk_Pa_259 mf_Pa_operation (c_Pa_operation _ _ _ _ _ h) rfl rfl rfl ⟨by omega, by omega⟩ (cat_sum _ (Nat.le_of_ble_eq_true rfl)) d_Pa_matrixElement_61 (fun r13 A12 h => ?_)
              refine g_ifB_eq (pc := 64) (tgt := 71) hX d_Pa_matrixElement_64 (by decide) (fun q => ?_) (fun q => ?_)
              · have h := h.1 q
                refine g_iconst (pc := 71) (v := 0) hX d_Pa_matrixElement_71 (by decide) ?_
                exact g_zret hX hQ false rfl h d_Pa_matrixElement_72
              · have h := h.2 q
                refine g_iconst (pc := 67) (v := 1) hX d_Pa_matrixElement_67 (by decide) ?_
                refine g_goto (pc := 68) (tgt := 72) hX d_Pa_matrixElement_68 (by decide) ?_
                exact g_zret hX hQ true rfl h d_Pa_matrixElement_72
  · have h := h.2 q
    refine g_iconst (pc := 9) (v := 0) hX d_Pa_matrixElement_9 (by decide) ?_
    exact g_zret hX hQ false rfl h d_Pa_matrixElement_10
def wp_Pa_bracketed (S : Nat → Mem → (Bool → Mem → Prop) → Prop) (o : Nat) (A : Mem) (K : Bool → Mem → Prop) : Prop := kd o = 2 ∧ wp_Pa_openBracket o A (fun (r2 : Bool) (A1 : Mem) => ((r2 = false → K false A1) ∧ (r2 = true → S o A1 (fun (r5 : Bool) (A4 : Mem) => ((r5 = false → K false A4) ∧ (r5 = true → wp_Pa_closeBracket o A4 (fun (r7 : Bool) (A6 : Mem) => ((r7 = false → K false A6) ∧ (r7 = true → K true A6)))))))))
set_option maxRecDepth 100000 in
set_option maxHeartbeats 4000000 in
theorem c_Pa_bracketed {fr lo : Nat} {S : Nat → Mem → (Bool → Mem → Prop) → Prop} (hS : ∀ (o : Nat) (A : Mem) (K : Bool → Mem → Prop), S o A K → CtZ y_Pa_sum prog_10_method_30_code 5 fr lo (fun E => [cr E o]) A K) (o : Nat) (A : Mem) (K : Bool → Mem → Prop) (h : wp_Pa_bracketed S o A K) : CtZ y_Pa_bracketed prog_10_method_39_code 1 (fr + 2) (lo + 41) (fun E => [cr E o]) A K := by
  refine ctZ_of "BasicMachine$Parser" (by decide) rfl (fun E => [(0, cr E o)]) (fun E => by simp [lg_sl, cr_cat, ca_i, ca_l, ca_d]) (fun E => by simp [lv_args, cr_cat, ca_i, ca_l, ca_d]) (fun X E hX hR hN hQ => ?_)
  unfold wp_Pa_bracketed at h
  refine g_aload_n (pc := 0) hX d_Pa_bracketed_0 rfl 0 rfl ?_
  obtain ⟨f3, h⟩ := h
  refine g_callV_Z (pc := 1) hX hR f3 cf2 rfl lk_Pa_191 mf_Pa_openBracket (c_Pa_openBracket _ _ _ h) rfl rfl rfl ⟨by omega, by omega⟩ (cat_sum _ (Nat.le_of_ble_eq_true rfl)) d_Pa_bracketed_1 (fun r2 A1 h => ?_)
  refine g_ifB_eq (pc := 4) (tgt := 25) hX d_Pa_bracketed_4 (by decide) (fun q => ?_) (fun q => ?_)
  · have h := h.1 q
    refine g_iconst (pc := 25) (v := 0) hX d_Pa_bracketed_25 (by decide) ?_
    exact g_zret hX hQ false rfl h d_Pa_bracketed_26
  · have h := h.2 q
    refine g_aload_n (pc := 7) hX d_Pa_bracketed_7 rfl 0 rfl ?_
    refine g_callV_Z (pc := 8) hX hR f3 cf2 rfl lk_Pa_250 mf_Pa_sum (hS _ _ _ h) rfl rfl rfl ⟨by omega, by omega⟩ (cat_sum _ (Nat.le_of_ble_eq_true rfl)) d_Pa_bracketed_8 (fun r5 A4 h => ?_)
    refine g_ifB_eq (pc := 11) (tgt := 25) hX d_Pa_bracketed_11 (by decide) (fun q => ?_) (fun q => ?_)
    · have h := h.1 q
      refine g_iconst (pc := 25) (v := 0) hX d_Pa_bracketed_25 (by decide) ?_
      exact g_zret hX hQ false rfl h d_Pa_bracketed_26
    · have h := h.2 q
      refine g_aload_n (pc := 14) hX d_Pa_bracketed_14 rfl 0 rfl ?_
      refine g_callV_Z (pc := 15) hX hR f3 cf2 rfl lk_Pa_194 mf_Pa_closeBracket (c_Pa_closeBracket _ _ _ h) rfl rfl rfl ⟨by omega, by omega⟩ (cat_sum _ (Nat.le_of_ble_eq_true rfl)) d_Pa_bracketed_15 (fun r7 A6 h => ?_)
      refine g_ifB_eq (pc := 18) (tgt := 25) hX d_Pa_bracketed_18 (by decide) (fun q => ?_) (fun q => ?_)
      · have h := h.1 q
        refine g_iconst (pc := 25) (v := 0) hX d_Pa_bracketed_25 (by decide) ?_
        exact g_zret hX hQ false rfl h d_Pa_bracketed_26
      · have h := h.2 q
        refine g_iconst (pc := 21) (v := 1) hX d_Pa_bracketed_21 (by decide) ?_
        refine g_goto (pc := 22) (tgt := 26) hX d_Pa_bracketed_22 (by decide) ?_
        exact g_zret hX hQ true rfl h d_Pa_bracketed_26
def wp_Ma_begin_c52 (K : Mem → Prop) : Nat → Nat → Int32 → Mem → Prop
  | 0, _, _, _ => False
  | n + 1, x0, x1, A => kd x0 = 4 ∧ kd (gR A x0 0) = 5 ∧ (((gI A (gR A x0 0) 0) ≤ x1 → K A) ∧ (¬ (gI A (gR A x0 0) 0) ≤ x1 → wp_Pr_lineAt (gR A x0 0) x1 A (fun (r8 : Nat) (A7 : Mem) => wp_Ma_gatherData x0 r8 A7 (fun (A9 : Mem) => wp_Ma_begin_c52 K n x0 (x1 + 1) A9))))
def wp_Ma_begin (o : Nat) (A : Mem) (K : Mem → Prop) : Prop := kd o = 4 ∧ kd (gR A o 1) = 6 ∧ wp_Ca_clear (gR A o 1) A (fun (A2 : Mem) => kd (gR A2 o 2) = 8 ∧ (∃ n9 : Nat, wp_Ma_begin_c52 K n9 o 0 (sI (sI (sI (sI (sI (sI (sI (sI A2 (gR A2 o 2) 0 0) o 5 0) o 4 0) o 8 0) o 9 (-1)) o 14 0) o 6 0) o 7 0)))
set_option maxRecDepth 100000 in
set_option maxHeartbeats 4000000 in
theorem k_Ma_begin_c52 {X : CXT} {E : EVT} {K : Mem → Prop} (hX : Gd X E "BasicMachine$Machine" prog_8_method_3_code) (hR : Rm X 2 44) (hN : xnL X = 2) (hQ : QV X E K) : ∀ (n : Nat) (x0 : Nat) (x1 : Int32) (A : Mem), wp_Ma_begin_c52 K n x0 x1 A → G X E A 52 [(0, cr E x0), (1, .int (x1))] [] := by
  intro n
  induction n with
  | zero => intro x0 x1 A h; exact h.elim
  | succ n ih =>
    intro x0 x1 A h
    rw [wp_Ma_begin_c52] at h
    refine g_iload_n (pc := 52) hX d_Ma_begin_52 rfl 1 rfl ?_
    refine g_aload_n (pc := 53) hX d_Ma_begin_53 rfl 0 rfl ?_
    obtain ⟨f5, h⟩ := h
    refine g_getR (pc := 54) hX fl_Ma_12 rfl f5 d_Ma_begin_54 ?_
    obtain ⟨f6, h⟩ := h
    refine g_getI (pc := 57) hX fl_Ma_110 rfl f6 d_Ma_begin_57 ?_
    refine g_icmp_ge (pc := 60) (tgt := 81) hX d_Ma_begin_60 (by decide) (fun q => ?_) (fun q => ?_)
    · have h := h.1 q
      exact g_vret hX hQ h d_Ma_begin_81
    · have h := h.2 q
      refine g_aload_n (pc := 63) hX d_Ma_begin_63 rfl 0 rfl ?_
      refine g_aload_n (pc := 64) hX d_Ma_begin_64 rfl 0 rfl ?_
      refine g_getR (pc := 65) hX fl_Ma_12 rfl f5 d_Ma_begin_65 ?_
      refine g_iload_n (pc := 68) hX d_Ma_begin_68 rfl 1 rfl ?_
      refine g_callV_R (pc := 69) hX hR f6 cf5 rfl lk_Ma_53 mf_Pr_lineAt (c_Pr_lineAt _ _ _ _ h) rfl rfl rfl ⟨by decide, by decide⟩ (cat_sum _ (Nat.le_of_ble_eq_true rfl)) d_Ma_begin_69 (fun r8 A7 h => ?_)
      refine g_callV_V (pc := 72) hX hR f5 cf4 rfl lk_Ma_111 mf_Ma_gatherData (c_Ma_gatherData _ _ _ _ h) rfl rfl rfl ⟨by decide, by decide⟩ (cat_sum _ (Nat.le_of_ble_eq_true rfl)) d_Ma_begin_72 (fun A9 h => ?_)
      refine g_iinc (pc := 75) (v := (x1 + 1)) (lv0 := [(0, cr E x0)]) hX d_Ma_begin_75 1 rfl rfl (by rw [hN]; decide) (g_st1b (ks := [0]) rfl (cr_cat _ _) rfl rfl) ?_
      refine g_goto (pc := 78) (tgt := 52) hX d_Ma_begin_78 (by decide) ?_
      refine g_sub [1, 0] rfl ?_
      exact ih _ _ _ h
set_option maxRecDepth 100000 in
set_option maxHeartbeats 4000000 in
theorem c_Ma_begin (o : Nat) (A : Mem) (K : Mem → Prop) (h : wp_Ma_begin o A K) : CtV y_Ma_begin prog_8_method_3_code 2 2 44 (fun E => [cr E o]) A K := by
  refine ctV_of "BasicMachine$Machine" (by decide) rfl (fun E => [(0, cr E o)]) (fun E => by simp [lg_sl, cr_cat, ca_i, ca_l, ca_d]) (fun E => by simp [lv_args, cr_cat, ca_i, ca_l, ca_d]) (fun X E hX hR hN hQ => ?_)
  unfold wp_Ma_begin at h
  refine g_aload_n (pc := 0) hX d_Ma_begin_0 rfl 0 rfl ?_
  obtain ⟨f1, h⟩ := h
  refine g_getR (pc := 1) hX fl_Ma_21 rfl f1 d_Ma_begin_1 ?_
  obtain ⟨f3, h⟩ := h
  refine g_callV_V (pc := 4) hX hR f3 cf6 rfl lk_Ma_92 mf_Ca_clear (c_Ca_clear _ _ _ h) rfl rfl rfl ⟨by decide, by decide⟩ (cat_sum _ (Nat.le_of_ble_eq_true rfl)) d_Ma_begin_4 (fun A2 h => ?_)
  refine g_aload_n (pc := 7) hX d_Ma_begin_7 rfl 0 rfl ?_
  refine g_getR (pc := 8) hX fl_Ma_28 rfl f1 d_Ma_begin_8 ?_
  refine g_iconst (pc := 11) (v := 0) hX d_Ma_begin_11 (by decide) ?_
  obtain ⟨f4, h⟩ := h
  refine g_putI (pc := 12) hX fl_Ma_95 rfl rfl rfl f4 d_Ma_begin_12 ?_
  refine g_aload_n (pc := 15) hX d_Ma_begin_15 rfl 0 rfl ?_
  refine g_iconst (pc := 16) (v := 0) hX d_Ma_begin_16 (by decide) ?_
  refine g_putI (pc := 17) hX fl_Ma_98 rfl rfl rfl f1 d_Ma_begin_17 ?_
  refine g_aload_n (pc := 20) hX d_Ma_begin_20 rfl 0 rfl ?_
  refine g_iconst (pc := 21) (v := 0) hX d_Ma_begin_21 (by decide) ?_
  refine g_putI (pc := 22) hX fl_Ma_101 rfl rfl rfl f1 d_Ma_begin_22 ?_
  refine g_aload_n (pc := 25) hX d_Ma_begin_25 rfl 0 rfl ?_
  refine g_iconst (pc := 26) (v := 0) hX d_Ma_begin_26 (by decide) ?_
  refine g_putI (pc := 27) hX fl_Ma_57 rfl rfl rfl f1 d_Ma_begin_27 ?_
  refine g_aload_n (pc := 30) hX d_Ma_begin_30 rfl 0 rfl ?_
  refine g_iconst (pc := 31) (v := (-1)) hX d_Ma_begin_31 (by decide) ?_
  refine g_putI (pc := 32) hX fl_Ma_36 rfl rfl rfl f1 d_Ma_begin_32 ?_
  refine g_aload_n (pc := 35) hX d_Ma_begin_35 rfl 0 rfl ?_
  refine g_iconst (pc := 36) (v := 0) hX d_Ma_begin_36 (by decide) ?_
  refine g_putI (pc := 37) hX fl_Ma_50 rfl rfl rfl f1 d_Ma_begin_37 ?_
  refine g_aload_n (pc := 40) hX d_Ma_begin_40 rfl 0 rfl ?_
  refine g_iconst (pc := 41) (v := 0) hX d_Ma_begin_41 (by decide) ?_
  refine g_putI (pc := 42) hX fl_Ma_104 rfl rfl rfl f1 d_Ma_begin_42 ?_
  refine g_aload_n (pc := 45) hX d_Ma_begin_45 rfl 0 rfl ?_
  refine g_iconst (pc := 46) (v := 0) hX d_Ma_begin_46 (by decide) ?_
  refine g_putI (pc := 47) hX fl_Ma_107 rfl rfl rfl f1 d_Ma_begin_47 ?_
  refine g_iconst (pc := 50) (v := 0) hX d_Ma_begin_50 (by decide) ?_
  refine g_istore_n (pc := 51) (lv0 := [(0, cr E o)]) hX d_Ma_begin_51 rfl (by rw [hN]; decide) (g_st1b (ks := [0]) rfl (cr_cat _ _) rfl rfl) ?_
  refine g_sub [1, 0] rfl ?_
  obtain ⟨n9, h⟩ := h
  exact k_Ma_begin_c52 hX hR hN hQ n9 _ _ _ h
def wp_Ma_read (o : Nat) (p1 : Nat) (p2 : Int32) (A : Mem) (K : Mem → Prop) : Prop := kd o = 4 ∧ (((gI A o 6) ≤ (gI A o 7) → kd (gR A o 1) = 6 ∧ wp_Ca_fail (gR A o 1) 1203 A (fun (A2 : Mem) => K A2)) ∧ (¬ (gI A o 6) ≤ (gI A o 7) → kd (gR A o 12) = 53 ∧ (((gI A o 7) < (Int32.ofNat (al (gR A o 12))) → vp_in (gI A o 7) (al (gR A o 12)) ∧ wp_Ma_store o p1 p2 (gD A (gR A o 12) (Int32.toNatClampNeg (gI A o 7))) A (fun (A6 : Mem) => kd (gR A6 o 1) = 6 ∧ wp_Ca_isFine (gR A6 o 1) A6 (fun (r8 : Bool) (A7 : Mem) => ((r8 = false → K (sI A7 o 7 ((gI A6 o 7) + 0))) ∧ (r8 = true → K (sI A7 o 7 ((gI A6 o 7) + 1))))))) ∧ (¬ (gI A o 7) < (Int32.ofNat (al (gR A o 12))) → kd (gR A o 1) = 6 ∧ wp_Ca_fail (gR A o 1) 1203 A (fun (A10 : Mem) => K A10)))))
set_option maxRecDepth 100000 in
set_option maxHeartbeats 4000000 in
theorem c_Ma_read (o : Nat) (p1 : Nat) (p2 : Int32) (A : Mem) (K : Mem → Prop) (h : wp_Ma_read o p1 p2 A K) : CtV y_Ma_read prog_8_method_8_code 3 2 47 (fun E => [cr E o, cr E p1, .int (p2)]) A K := by
  refine ctV_of "BasicMachine$Machine" (by decide) rfl (fun E => [(0, cr E o), (1, cr E p1), (2, .int (p2))]) (fun E => by simp [lg_sl, cr_cat, ca_i, ca_l, ca_d]) (fun E => by simp [lv_args, cr_cat, ca_i, ca_l, ca_d]) (fun X E hX hR hN hQ => ?_)
  unfold wp_Ma_read at h
  refine g_aload_n (pc := 0) hX d_Ma_read_0 rfl 0 rfl ?_
  obtain ⟨f1, h⟩ := h
  refine g_getI (pc := 1) hX fl_Ma_107 rfl f1 d_Ma_read_1 ?_
  refine g_aload_n (pc := 4) hX d_Ma_read_4 rfl 0 rfl ?_
  refine g_getI (pc := 5) hX fl_Ma_104 rfl f1 d_Ma_read_5 ?_
  refine g_icmp_ge (pc := 8) (tgt := 23) hX d_Ma_read_8 (by decide) (fun q => ?_) (fun q => ?_)
  · have h := h.1 q
    refine g_aload_n (pc := 23) hX d_Ma_read_23 rfl 0 rfl ?_
    refine g_getR (pc := 24) hX fl_Ma_21 rfl f1 d_Ma_read_24 ?_
    refine g_getsE (pc := 27) (i := 3) hX (gSF hX).2.2.1 (by decide) rfl (by decide) ls_Ma_220 d_Ma_read_27 ?_
    obtain ⟨f3, h⟩ := h
    refine g_callV_V (pc := 30) hX hR f3 cf6 rfl lk_Ma_82 mf_Ca_fail (c_Ca_fail _ _ _ _ h) rfl rfl rfl ⟨by decide, by decide⟩ (cat_sum _ (Nat.le_of_ble_eq_true rfl)) d_Ma_read_30 (fun A2 h => ?_)
    exact g_vret hX hQ h d_Ma_read_33
  · have h := h.2 q
    refine g_aload_n (pc := 11) hX d_Ma_read_11 rfl 0 rfl ?_
    refine g_getI (pc := 12) hX fl_Ma_107 rfl f1 d_Ma_read_12 ?_
    refine g_aload_n (pc := 15) hX d_Ma_read_15 rfl 0 rfl ?_
    refine g_getR (pc := 16) hX fl_Ma_44 rfl f1 d_Ma_read_16 ?_
    obtain ⟨f4, h⟩ := h
    refine g_alen (pc := 19) hX f4 (by decide) rfl d_Ma_read_19 ?_
    refine g_icmp_lt (pc := 20) (tgt := 34) hX d_Ma_read_20 (by decide) (fun q => ?_) (fun q => ?_)
    · have h := h.1 q
      refine g_aload_n (pc := 34) hX d_Ma_read_34 rfl 0 rfl ?_
      refine g_aload_n (pc := 35) hX d_Ma_read_35 rfl 1 rfl ?_
      refine g_iload_n (pc := 36) hX d_Ma_read_36 rfl 2 rfl ?_
      refine g_aload_n (pc := 37) hX d_Ma_read_37 rfl 0 rfl ?_
      refine g_getR (pc := 38) hX fl_Ma_44 rfl f1 d_Ma_read_38 ?_
      refine g_aload_n (pc := 41) hX d_Ma_read_41 rfl 0 rfl ?_
      refine g_getI (pc := 42) hX fl_Ma_107 rfl f1 d_Ma_read_42 ?_
      obtain ⟨f5, h⟩ := h
      refine g_daload (pc := 45) hX f4 f5 d_Ma_read_45 ?_
      refine g_callV_V (pc := 46) hX hR f1 cf4 rfl lk_Ma_216 mf_Ma_store (c_Ma_store _ _ _ _ _ _ h) rfl rfl rfl ⟨by decide, by decide⟩ (cat_sum _ (Nat.le_of_ble_eq_true rfl)) d_Ma_read_46 (fun A6 h => ?_)
      refine g_aload_n (pc := 49) hX d_Ma_read_49 rfl 0 rfl ?_
      refine g_dup (pc := 50) hX d_Ma_read_50 (cr_cat _ _) ?_
      refine g_getI (pc := 51) hX fl_Ma_107 rfl f1 d_Ma_read_51 ?_
      refine g_aload_n (pc := 54) hX d_Ma_read_54 rfl 0 rfl ?_
      refine g_getR (pc := 55) hX fl_Ma_21 rfl f1 d_Ma_read_55 ?_
      obtain ⟨f9, h⟩ := h
      refine g_callV_Z (pc := 58) hX hR f9 cf6 rfl lk_Ma_72 mf_Ca_isFine (c_Ca_isFine _ _ _ h) rfl rfl rfl ⟨by decide, by decide⟩ (cat_sum _ (Nat.le_of_ble_eq_true rfl)) d_Ma_read_58 (fun r8 A7 h => ?_)
      refine g_ifB_eq (pc := 61) (tgt := 68) hX d_Ma_read_61 (by decide) (fun q => ?_) (fun q => ?_)
      · have h := h.1 q
        refine g_iconst (pc := 68) (v := 0) hX d_Ma_read_68 (by decide) ?_
        refine g_iadd (pc := 69) hX d_Ma_read_69 ?_
        refine g_putI (pc := 70) hX fl_Ma_107 rfl rfl rfl f1 d_Ma_read_70 ?_
        exact g_vret hX hQ h d_Ma_read_73
      · have h := h.2 q
        refine g_iconst (pc := 64) (v := 1) hX d_Ma_read_64 (by decide) ?_
        refine g_goto (pc := 65) (tgt := 69) hX d_Ma_read_65 (by decide) ?_
        refine g_iadd (pc := 69) hX d_Ma_read_69 ?_
        refine g_putI (pc := 70) hX fl_Ma_107 rfl rfl rfl f1 d_Ma_read_70 ?_
        exact g_vret hX hQ h d_Ma_read_73
    · have h := h.2 q
      refine g_aload_n (pc := 23) hX d_Ma_read_23 rfl 0 rfl ?_
      refine g_getR (pc := 24) hX fl_Ma_21 rfl f1 d_Ma_read_24 ?_
      refine g_getsE (pc := 27) (i := 3) hX (gSF hX).2.2.1 (by decide) rfl (by decide) ls_Ma_220 d_Ma_read_27 ?_
      obtain ⟨f11, h⟩ := h
      refine g_callV_V (pc := 30) hX hR f11 cf6 rfl lk_Ma_82 mf_Ca_fail (c_Ca_fail _ _ _ _ h) rfl rfl rfl ⟨by decide, by decide⟩ (cat_sum _ (Nat.le_of_ble_eq_true rfl)) d_Ma_read_30 (fun A10 h => ?_)
      exact g_vret hX hQ h d_Ma_read_33
def wp_Ca_evaluateB_c22 (S : Nat → Nat → Int32 → Int32 → Mem → (UInt64 → Mem → Prop) → Prop) (K : UInt64 → Mem → Prop) : Nat → Nat → Nat → Int32 → Int32 → Int32 → Mem → Prop
  | 0, _, _, _, _, _, _ => False
  | n + 1, x0, x1, x3, x4, x5, A => ((x4 ≤ x5 → kd x0 = 6 ∧ wp_Ca_pop x0 A (fun (r8 : UInt64) (A7 : Mem) => K r8 A7)) ∧ (¬ x4 ≤ x5 → kd x0 = 6 ∧ wp_Ca_isFine x0 A (fun (r11 : Bool) (A10 : Mem) => ((r11 = false → wp_Ca_pop x0 A10 (fun (r14 : UInt64) (A13 : Mem) => K r14 A13)) ∧ (r11 = true → kd x1 = 3 ∧ kd (gR A10 x1 10) = 51 ∧ vp_in x5 (al (gR A10 x1 10)) ∧ kd (gR A10 x1 11) = 51 ∧ vp_in x5 (al (gR A10 x1 11)) ∧ wp_Ca_apply S x0 (gI A10 (gR A10 x1 10) (Int32.toNatClampNeg x5)) (gI A10 (gR A10 x1 11) (Int32.toNatClampNeg x5)) x3 A10 (fun (A20 : Mem) => wp_Ca_evaluateB_c22 S K n x0 x1 x3 x4 (x5 + 1) A20))))))
def wp_Ca_evaluateB (S : Nat → Nat → Int32 → Int32 → Mem → (UInt64 → Mem → Prop) → Prop) (o : Nat) (p1 : Nat) (p2 : Int32) (p3 : Int32) (A : Mem) (K : UInt64 → Mem → Prop) : Prop := kd p1 = 3 ∧ wp_Li_endOf p1 p2 A (fun (r2 : Int32) (A1 : Mem) => kd (gR A1 p1 10) = 51 ∧ wp_Li_startOf p1 p2 A1 (fun (r6 : Int32) (A5 : Mem) => (∃ n9 : Nat, wp_Ca_evaluateB_c22 S K n9 o p1 p3 (if (Int32.ofNat (al (gR A1 p1 10))) < r2 then (Int32.ofNat (al (gR A1 p1 10))) else r2) r6 A5)))
set_option maxRecDepth 100000 in
set_option maxHeartbeats 4000000 in
theorem k_Ca_evaluateB_c22 {fr lo : Nat} {S : Nat → Nat → Int32 → Int32 → Mem → (UInt64 → Mem → Prop) → Prop} (hS : ∀ (o : Nat) (p1 : Nat) (p2 : Int32) (p3 : Int32) (A : Mem) (K : UInt64 → Mem → Prop), S o p1 p2 p3 A K → CtD y_Ca_evaluate prog_3_method_14_code 6 fr lo (fun E => [cr E o, cr E p1, .int (p2), .int (p3)]) A K) {X : CXT} {E : EVT} {K : UInt64 → Mem → Prop} (hX : Gd X E "BasicMachine$Calculator" prog_3_method_14_code) (hR : Rm X (fr + 3) (lo + 78)) (hN : xnL X = 6) (hQ : QD X E K) : ∀ (n : Nat) (x0 : Nat) (x1 : Nat) (x3 : Int32) (x4 : Int32) (x5 : Int32) (A : Mem), wp_Ca_evaluateB_c22 S K n x0 x1 x3 x4 x5 A → G X E A 22 [(0, cr E x0), (1, cr E x1), (3, .int (x3)), (4, .int (x4)), (5, .int (x5))] [] := by
  intro n
  induction n with
  | zero => intro x0 x1 x3 x4 x5 A h; exact h.elim
  | succ n ih =>
    intro x0 x1 x3 x4 x5 A h
    rw [wp_Ca_evaluateB_c22] at h
    refine g_iload (pc := 22) hX d_Ca_evaluateB_22 4 rfl ?_
    refine g_iload (pc := 24) hX d_Ca_evaluateB_24 3 rfl ?_
    refine g_icmp_ge (pc := 26) (tgt := 61) hX d_Ca_evaluateB_26 (by decide) (fun q => ?_) (fun q => ?_)
    · have h := h.1 q
      refine g_aload_n (pc := 61) hX d_Ca_evaluateB_61 rfl 0 rfl ?_
      obtain ⟨f9, h⟩ := h
      refine g_callV_D (pc := 62) hX hR f9 cf6 rfl lk_Ca_96 mf_Ca_pop (c_Ca_pop _ _ _ h) rfl rfl rfl ⟨by omega, by omega⟩ (cat_sum _ (Nat.le_of_ble_eq_true rfl)) d_Ca_evaluateB_62 (fun r8 A7 h => ?_)
      exact g_dret hX hQ h d_Ca_evaluateB_65
    · have h := h.2 q
      refine g_aload_n (pc := 29) hX d_Ca_evaluateB_29 rfl 0 rfl ?_
      obtain ⟨f12, h⟩ := h
      refine g_callV_Z (pc := 30) hX hR f12 cf6 rfl lk_Ca_85 mf_Ca_isFine (c_Ca_isFine _ _ _ h) rfl rfl rfl ⟨by omega, by omega⟩ (cat_sum _ (Nat.le_of_ble_eq_true rfl)) d_Ca_evaluateB_30 (fun r11 A10 h => ?_)
      refine g_ifB_eq (pc := 33) (tgt := 61) hX d_Ca_evaluateB_33 (by decide) (fun q => ?_) (fun q => ?_)
      · have h := h.1 q
        refine g_aload_n (pc := 61) hX d_Ca_evaluateB_61 rfl 0 rfl ?_
        refine g_callV_D (pc := 62) hX hR f12 cf6 rfl lk_Ca_96 mf_Ca_pop (c_Ca_pop _ _ _ h) rfl rfl rfl ⟨by omega, by omega⟩ (cat_sum _ (Nat.le_of_ble_eq_true rfl)) d_Ca_evaluateB_62 (fun r14 A13 h => ?_)
        exact g_dret hX hQ h d_Ca_evaluateB_65
      · have h := h.2 q
        refine g_aload_n (pc := 36) hX d_Ca_evaluateB_36 rfl 0 rfl ?_
        refine g_aload_n (pc := 37) hX d_Ca_evaluateB_37 rfl 1 rfl ?_
        obtain ⟨f15, h⟩ := h
        refine g_getR (pc := 38) hX fl_Ca_72 rfl f15 d_Ca_evaluateB_38 ?_
        refine g_iload (pc := 41) hX d_Ca_evaluateB_41 4 rfl ?_
        obtain ⟨f16, h⟩ := h
        obtain ⟨f17, h⟩ := h
        refine g_iaload (pc := 43) hX f16 f17 d_Ca_evaluateB_43 ?_
        refine g_aload_n (pc := 44) hX d_Ca_evaluateB_44 rfl 1 rfl ?_
        refine g_getR (pc := 45) hX fl_Ca_89 rfl f15 d_Ca_evaluateB_45 ?_
        refine g_iload (pc := 48) hX d_Ca_evaluateB_48 4 rfl ?_
        obtain ⟨f18, h⟩ := h
        obtain ⟨f19, h⟩ := h
        refine g_iaload (pc := 50) hX f18 f19 d_Ca_evaluateB_50 ?_
        refine g_iload_n (pc := 51) hX d_Ca_evaluateB_51 rfl 2 rfl ?_
        refine g_callV_V (pc := 52) hX hR f12 cf6 rfl lk_Ca_92 mf_Ca_apply (c_Ca_apply hS _ _ _ _ _ _ h) rfl rfl rfl ⟨by omega, by omega⟩ (cat_sum _ (Nat.le_of_ble_eq_true rfl)) d_Ca_evaluateB_52 (fun A20 h => ?_)
        refine g_iinc (pc := 55) (v := (x5 + 1)) (lv0 := [(4, .int (x4)), (0, cr E x0), (1, cr E x1), (3, .int (x3))]) hX d_Ca_evaluateB_55 4 rfl rfl (by rw [hN]; decide) (g_st1b (ks := [3, 0, 1, 2]) rfl rfl rfl rfl) ?_
        refine g_goto (pc := 58) (tgt := 22) hX d_Ca_evaluateB_58 (by decide) ?_
        refine g_sub [2, 3, 4, 1, 0] rfl ?_
        exact ih _ _ _ _ _ _ h
set_option maxRecDepth 100000 in
set_option maxHeartbeats 4000000 in
theorem c_Ca_evaluateB {fr lo : Nat} {S : Nat → Nat → Int32 → Int32 → Mem → (UInt64 → Mem → Prop) → Prop} (hS : ∀ (o : Nat) (p1 : Nat) (p2 : Int32) (p3 : Int32) (A : Mem) (K : UInt64 → Mem → Prop), S o p1 p2 p3 A K → CtD y_Ca_evaluate prog_3_method_14_code 6 fr lo (fun E => [cr E o, cr E p1, .int (p2), .int (p3)]) A K) (o : Nat) (p1 : Nat) (p2 : Int32) (p3 : Int32) (A : Mem) (K : UInt64 → Mem → Prop) (h : wp_Ca_evaluateB S o p1 p2 p3 A K) : CtD y_Ca_evaluate prog_3_method_14_code 6 (fr + 3) (lo + 78) (fun E => [cr E o, cr E p1, .int (p2), .int (p3)]) A K := by
  refine ctD_of "BasicMachine$Calculator" (by decide) rfl (fun E => [(0, cr E o), (1, cr E p1), (2, .int (p2)), (3, .int (p3))]) (fun E => by simp [lg_sl, cr_cat, ca_i, ca_l, ca_d]) (fun E => by simp [lv_args, cr_cat, ca_i, ca_l, ca_d]) (fun X E hX hR hN hQ => ?_)
  unfold wp_Ca_evaluateB at h
  refine g_aload_n (pc := 0) hX d_Ca_evaluateB_0 rfl 1 rfl ?_
  refine g_iload_n (pc := 1) hX d_Ca_evaluateB_1 rfl 2 rfl ?_
  obtain ⟨f3, h⟩ := h
  refine g_callV_I (pc := 2) hX hR f3 cf3 rfl lk_Ca_68 mf_Li_endOf (c_Li_endOf _ _ _ _ h) rfl rfl rfl ⟨by omega, by omega⟩ (cat_sum _ (Nat.le_of_ble_eq_true rfl)) d_Ca_evaluateB_2 (fun r2 A1 h => ?_)
  refine g_aload_n (pc := 5) hX d_Ca_evaluateB_5 rfl 1 rfl ?_
  refine g_getR (pc := 6) hX fl_Ca_72 rfl f3 d_Ca_evaluateB_6 ?_
  obtain ⟨f4, h⟩ := h
  refine g_alen (pc := 9) hX f4 (by decide) rfl d_Ca_evaluateB_9 ?_
  refine g_mmin (pc := 10) hX hR mt_min lk_Ca_76 ⟨by omega, by omega⟩ (cat_sum _ (Nat.le_of_ble_eq_true rfl)) d_Ca_evaluateB_10 ?_
  refine g_istore (pc := 13) (lv0 := [(3, .int (p3)), (0, cr E o), (1, cr E p1), (2, .int (p2))]) hX d_Ca_evaluateB_13 (by rw [hN]; decide) (g_st1b (ks := [3, 0, 1, 2]) rfl rfl rfl rfl) ?_
  refine g_aload_n (pc := 15) hX d_Ca_evaluateB_15 rfl 3 rfl ?_
  refine g_iload_n (pc := 16) hX d_Ca_evaluateB_16 rfl 4 rfl ?_
  refine g_callV_I (pc := 17) hX hR f3 cf3 rfl lk_Ca_82 mf_Li_startOf (c_Li_startOf _ _ _ _ h) rfl rfl rfl ⟨by omega, by omega⟩ (cat_sum _ (Nat.le_of_ble_eq_true rfl)) d_Ca_evaluateB_17 (fun r6 A5 h => ?_)
  refine g_istore (pc := 20) (lv0 := [(4, .int ((if (Int32.ofNat (al (gR A1 p1 10))) < r2 then (Int32.ofNat (al (gR A1 p1 10))) else r2))), (3, .int (p3)), (0, cr E o), (1, cr E p1), (2, .int (p2))]) hX d_Ca_evaluateB_20 (by rw [hN]; decide) (g_st1b (ks := [0, 1, 2, 3, 4]) rfl rfl rfl rfl) ?_
  refine g_sub [3, 4, 2, 1, 0] rfl ?_
  obtain ⟨n9, h⟩ := h
  exact k_Ca_evaluateB_c22 hS hX hR hN hQ n9 _ _ _ _ _ _ h
def wp_Ca_evaluate : Nat → Nat → Nat → Int32 → Int32 → Mem → (UInt64 → Mem → Prop) → Prop
  | 0, _, _, _, _, _, _ => False
  | d + 1, o, p1, p2, p3, A, K => wp_Ca_evaluateB (wp_Ca_evaluate d) o p1 p2 p3 A K
theorem c_Ca_evaluate : ∀ (d : Nat) (o : Nat) (p1 : Nat) (p2 : Int32) (p3 : Int32) (A : Mem) (K : UInt64 → Mem → Prop), wp_Ca_evaluate d o p1 p2 p3 A K → CtD y_Ca_evaluate prog_3_method_14_code 6 (3 * d) (78 * d) (fun E => [cr E o, cr E p1, .int (p2), .int (p3)]) A K := by
  intro d
  induction d with
  | zero => intro o p1 p2 p3 A K h; exact h.elim
  | succ d ih =>
    intro o p1 p2 p3 A K h
    have h9 := c_Ca_evaluateB (fr := 3 * d) (lo := 78 * d) ih o p1 p2 p3 A K h
    rw [Nat.mul_succ, Nat.mul_succ]
    exact h9
def wp_Pa_keyword_c4 (K : Bool → Mem → Prop) : Nat → Nat → Int32 → Int32 → Mem → Prop
  | 0, _, _, _, _ => False
  | n + 1, x0, x1, x2, A => ((17 ≤ x2 → kd x0 = 2 ∧ K false (sI A x0 1 ((gI A x0 1) + x1))) ∧ (¬ 17 ≤ x2 → vp_in x2 17 ∧ (1000 ≤ (1000 + Int32.toNatClampNeg x2) ∧ (1000 + Int32.toNatClampNeg x2) < 1017) ∧ kd x0 = 2 ∧ wp_Pa_sharedLength x0 (2000 + wdS.getD ((1000 + Int32.toNatClampNeg x2) - 1000) 0) A (fun (r5 : Int32) (A4 : Mem) => isS (2000 + wdS.getD ((1000 + Int32.toNatClampNeg x2) - 1000) 0) ∧ wp_JS_length (2000 + wdS.getD ((1000 + Int32.toNatClampNeg x2) - 1000) 0) A4 (fun (r8 : Int32) (A7 : Mem) => ((¬ r5 = r8 → wp_Pa_keyword_c4 K n x0 (if x1 < r5 then r5 else x1) (x2 + 1) A7) ∧ (r5 = r8 → kd (gR A7 x0 0) = 3 ∧ ∀ A11 : Mem, A11 = (sI (sR A7 (gR A7 x0 0) 2 (1000 + Int32.toNatClampNeg x2)) x0 1 ((gI (sR A7 (gR A7 x0 0) 2 (1000 + Int32.toNatClampNeg x2)) x0 1) + r5)) → K true A11))))))
def wp_Pa_keyword (o : Nat) (A : Mem) (K : Bool → Mem → Prop) : Prop := (∃ n9 : Nat, wp_Pa_keyword_c4 K n9 o 0 0 A)
set_option maxRecDepth 100000 in
set_option maxHeartbeats 4000000 in
theorem k_Pa_keyword_c4 {X : CXT} {E : EVT} {K : Bool → Mem → Prop} (hX : Gd X E "BasicMachine$Parser" prog_10_method_8_code) (hR : Rm X 5 107) (hN : xnL X = 4) (hQ : QZ X E K) : ∀ (n : Nat) (x0 : Nat) (x1 : Int32) (x2 : Int32) (A : Mem), wp_Pa_keyword_c4 K n x0 x1 x2 A → G X E A 4 [(0, cr E x0), (1, .int (x1)), (2, .int (x2))] [] := by
  intro n
  induction n with
  | zero => intro x0 x1 x2 A h; exact h.elim
  | succ n ih =>
    intro x0 x1 x2 A h
    rw [wp_Pa_keyword_c4] at h
    refine g_iload_n (pc := 4) hX d_Pa_keyword_4 rfl 2 rfl ?_
    refine g_getsA (pc := 5) hX ls_Pa_72 d_Pa_keyword_5 ?_
    refine g_salen (pc := 8) hX d_Pa_keyword_8 ?_
    refine g_icmp_ge (pc := 9) (tgt := 76) hX d_Pa_keyword_9 (by decide) (fun q => ?_) (fun q => ?_)
    · have h := h.1 q
      refine g_aload_n (pc := 76) hX d_Pa_keyword_76 rfl 0 rfl ?_
      refine g_dup (pc := 77) hX d_Pa_keyword_77 (cr_cat _ _) ?_
      obtain ⟨f1, h⟩ := h
      refine g_getI (pc := 78) hX fl_Pa_26 rfl f1 d_Pa_keyword_78 ?_
      refine g_iload_n (pc := 81) hX d_Pa_keyword_81 rfl 1 rfl ?_
      refine g_iadd (pc := 82) hX d_Pa_keyword_82 ?_
      refine g_putI (pc := 83) hX fl_Pa_26 rfl rfl rfl f1 d_Pa_keyword_83 ?_
      refine g_iconst (pc := 86) (v := 0) hX d_Pa_keyword_86 (by decide) ?_
      exact g_zret hX hQ false rfl h d_Pa_keyword_87
    · have h := h.2 q
      refine g_aload_n (pc := 12) hX d_Pa_keyword_12 rfl 0 rfl ?_
      refine g_getsA (pc := 13) hX ls_Pa_72 d_Pa_keyword_13 ?_
      refine g_iload_n (pc := 16) hX d_Pa_keyword_16 rfl 2 rfl ?_
      obtain ⟨f2, h⟩ := h
      refine g_sald (pc := 17) hX f2 d_Pa_keyword_17 ?_
      obtain ⟨f3, h⟩ := h
      refine g_getW (pc := 18) hX f3 ls_Pa_76 d_Pa_keyword_18 ?_
      obtain ⟨f6, h⟩ := h
      refine g_callV_I (pc := 21) hX hR f6 cf2 rfl lk_Pa_82 mf_Pa_sharedLength (c_Pa_sharedLength _ _ _ _ h) rfl rfl rfl ⟨by decide, by decide⟩ (cat_sum _ (Nat.le_of_ble_eq_true rfl)) d_Pa_keyword_21 (fun r5 A4 h => ?_)
      refine g_istore_n (pc := 24) (lv0 := [(2, .int (x2)), (0, cr E x0), (1, .int (x1))]) hX d_Pa_keyword_24 rfl (by rw [hN]; decide) (g_st1b (ks := [2, 0, 1]) rfl rfl rfl rfl) ?_
      refine g_iload_n (pc := 25) hX d_Pa_keyword_25 rfl 0 rfl ?_
      refine g_getsA (pc := 26) hX ls_Pa_72 d_Pa_keyword_26 ?_
      refine g_iload_n (pc := 29) hX d_Pa_keyword_29 rfl 1 rfl ?_
      refine g_sald (pc := 30) hX f2 d_Pa_keyword_30 ?_
      refine g_getW (pc := 31) hX f3 ls_Pa_76 d_Pa_keyword_31 ?_
      obtain ⟨f9, h⟩ := h
      refine g_callVS_I (pc := 34) hX hR f9 rfl lk_Pa_59 mf_JS_length (c_JS_length _ _ _ h) rfl rfl rfl ⟨by decide, by decide⟩ (cat_sum _ (Nat.le_of_ble_eq_true rfl)) d_Pa_keyword_34 (fun r8 A7 h => ?_)
      refine g_icmp_ne (pc := 37) (tgt := 64) hX d_Pa_keyword_37 (by decide) (fun q => ?_) (fun q => ?_)
      · have h := h.1 q
        refine g_iload_n (pc := 64) hX d_Pa_keyword_64 rfl 3 rfl ?_
        refine g_iload_n (pc := 65) hX d_Pa_keyword_65 rfl 0 rfl ?_
        refine g_mmax (pc := 66) hX hR mt_max lk_Pa_90 (by decide) (cat_sum _ (Nat.le_of_ble_eq_true rfl)) d_Pa_keyword_66 ?_
        refine g_istore_n (pc := 69) (lv0 := [(0, cr E x0), (3, .int (r5)), (2, .int (x2))]) hX d_Pa_keyword_69 rfl (by rw [hN]; decide) (g_st1b (ks := [2, 0, 1]) rfl (cr_cat _ _) rfl rfl) ?_
        refine g_iinc (pc := 70) (v := (x2 + 1)) (lv0 := [(1, .int ((if x1 < r5 then r5 else x1))), (0, cr E x0), (3, .int (r5))]) hX d_Pa_keyword_70 3 rfl rfl (by rw [hN]; decide) (g_st1b (ks := [0, 1, 2]) rfl rfl rfl rfl) ?_
        refine g_goto (pc := 73) (tgt := 4) hX d_Pa_keyword_73 (by decide) ?_
        refine g_sub [2, 1, 0] rfl ?_
        exact ih _ _ _ _ h
      · have h := h.2 q
        refine g_aload_n (pc := 40) hX d_Pa_keyword_40 rfl 2 rfl ?_
        refine g_getR (pc := 41) hX fl_Pa_12 rfl f6 d_Pa_keyword_41 ?_
        refine g_getsA (pc := 44) hX ls_Pa_72 d_Pa_keyword_44 ?_
        refine g_iload_n (pc := 47) hX d_Pa_keyword_47 rfl 1 rfl ?_
        refine g_sald (pc := 48) hX f2 d_Pa_keyword_48 ?_
        obtain ⟨f10, h⟩ := h
        refine g_putR (pc := 49) hX fl_Pa_86 rfl rfl rfl f10 d_Pa_keyword_49 ?_
        refine g_aload_n (pc := 52) hX d_Pa_keyword_52 rfl 2 rfl ?_
        refine g_dup (pc := 53) hX d_Pa_keyword_53 (cr_cat _ _) ?_
        refine g_getI (pc := 54) hX fl_Pa_26 rfl f6 d_Pa_keyword_54 ?_
        refine g_iload_n (pc := 57) hX d_Pa_keyword_57 rfl 0 rfl ?_
        refine g_iadd (pc := 58) hX d_Pa_keyword_58 ?_
        refine g_putI (pc := 59) hX fl_Pa_26 rfl rfl rfl f6 d_Pa_keyword_59 ?_
        refine g_nm (fun A11 eA11 => ?_)
        have h := h A11 eA11
        refine g_iconst (pc := 62) (v := 1) hX d_Pa_keyword_62 (by decide) ?_
        exact g_zret hX hQ true rfl h d_Pa_keyword_63
set_option maxRecDepth 100000 in
set_option maxHeartbeats 4000000 in
theorem c_Pa_keyword (o : Nat) (A : Mem) (K : Bool → Mem → Prop) (h : wp_Pa_keyword o A K) : CtZ y_Pa_keyword prog_10_method_8_code 4 5 107 (fun E => [cr E o]) A K := by
  refine ctZ_of "BasicMachine$Parser" (by decide) rfl (fun E => [(0, cr E o)]) (fun E => by simp [lg_sl, cr_cat, ca_i, ca_l, ca_d]) (fun E => by simp [lv_args, cr_cat, ca_i, ca_l, ca_d]) (fun X E hX hR hN hQ => ?_)
  unfold wp_Pa_keyword at h
  refine g_iconst (pc := 0) (v := 0) hX d_Pa_keyword_0 (by decide) ?_
  refine g_istore_n (pc := 1) (lv0 := [(0, cr E o)]) hX d_Pa_keyword_1 rfl (by rw [hN]; decide) (g_st1b (ks := [0]) rfl (cr_cat _ _) rfl rfl) ?_
  refine g_iconst (pc := 2) (v := 0) hX d_Pa_keyword_2 (by decide) ?_
  refine g_istore_n (pc := 3) (lv0 := [(1, .int (0)), (0, cr E o)]) hX d_Pa_keyword_3 rfl (by rw [hN]; decide) (g_st1b (ks := [0, 1]) rfl rfl rfl rfl) ?_
  refine g_sub [2, 1, 0] rfl ?_
  obtain ⟨n9, h⟩ := h
  exact k_Pa_keyword_c4 hX hR hN hQ n9 _ _ _ _ h
def wp_Pa_constant (o : Nat) (A : Mem) (K : Bool → Mem → Prop) : Prop := kd o = 2 ∧ wp_Pa_skip o 45 A (fun (r2 : Bool) (A1 : Mem) => wp_Pa_numeral o A1 (fun (r5 : Bool) (A4 : Mem) => ((r5 = true → ((r2 = false → kd (gR A4 o 0) = 3 ∧ wp_Li_addNumber (gR A4 o 0) (gI A4 o 5) A4 (fun (A6 : Mem) => K true A6)) ∧ (r2 = true → kd (gR A4 o 0) = 3 ∧ wp_Li_addNumber (gR A4 o 0) (-(gI A4 o 5)) A4 (fun (A8 : Mem) => K true A8)))) ∧ (r5 = false → K false A4))))
set_option maxRecDepth 100000 in
set_option maxHeartbeats 4000000 in
theorem c_Pa_constant (o : Nat) (A : Mem) (K : Bool → Mem → Prop) (h : wp_Pa_constant o A K) : CtZ y_Pa_constant prog_10_method_16_code 2 2 44 (fun E => [cr E o]) A K := by
  refine ctZ_of "BasicMachine$Parser" (by decide) rfl (fun E => [(0, cr E o)]) (fun E => by simp [lg_sl, cr_cat, ca_i, ca_l, ca_d]) (fun E => by simp [lv_args, cr_cat, ca_i, ca_l, ca_d]) (fun X E hX hR hN hQ => ?_)
  unfold wp_Pa_constant at h
  refine g_aload_n (pc := 0) hX d_Pa_constant_0 rfl 0 rfl ?_
  refine g_bipush (pc := 1) (v := 45) hX d_Pa_constant_1 (by decide) ?_
  obtain ⟨f3, h⟩ := h
  refine g_callV_Z (pc := 3) hX hR f3 cf2 rfl lk_Pa_68 mf_Pa_skip (c_Pa_skip _ _ _ _ h) rfl rfl rfl ⟨by decide, by decide⟩ (cat_sum _ (Nat.le_of_ble_eq_true rfl)) d_Pa_constant_3 (fun r2 A1 h => ?_)
  refine g_istore_n (pc := 6) (lv0 := [(0, cr E o)]) hX d_Pa_constant_6 rfl (by rw [hN]; decide) (g_st1b (ks := [0]) rfl (cr_cat _ _) rfl rfl) ?_
  refine g_aload_n (pc := 7) hX d_Pa_constant_7 rfl 1 rfl ?_
  refine g_callV_Z (pc := 8) hX hR f3 cf2 rfl lk_Pa_171 mf_Pa_numeral (c_Pa_numeral _ _ _ h) rfl rfl rfl ⟨by decide, by decide⟩ (cat_sum _ (Nat.le_of_ble_eq_true rfl)) d_Pa_constant_8 (fun r5 A4 h => ?_)
  refine g_ifB_ne (pc := 11) (tgt := 16) hX d_Pa_constant_11 (by decide) (fun q => ?_) (fun q => ?_)
  · have h := h.1 q
    refine g_aload_n (pc := 16) hX d_Pa_constant_16 rfl 1 rfl ?_
    refine g_getR (pc := 17) hX fl_Pa_12 rfl f3 d_Pa_constant_17 ?_
    refine g_iload_n (pc := 20) hX d_Pa_constant_20 rfl 0 rfl ?_
    refine g_ifB_eq (pc := 21) (tgt := 32) hX d_Pa_constant_21 (by decide) (fun q => ?_) (fun q => ?_)
    · have h := h.1 q
      refine g_aload_n (pc := 32) hX d_Pa_constant_32 rfl 1 rfl ?_
      refine g_getI (pc := 33) hX fl_Pa_40 rfl f3 d_Pa_constant_33 ?_
      obtain ⟨f7, h⟩ := h
      refine g_callV_V (pc := 36) hX hR f7 cf3 rfl lk_Pa_164 mf_Li_addNumber (c_Li_addNumber _ _ _ _ h) rfl rfl rfl ⟨by decide, by decide⟩ (cat_sum _ (Nat.le_of_ble_eq_true rfl)) d_Pa_constant_36 (fun A6 h => ?_)
      refine g_iconst (pc := 39) (v := 1) hX d_Pa_constant_39 (by decide) ?_
      exact g_zret hX hQ true rfl h d_Pa_constant_40
    · have h := h.2 q
      refine g_aload_n (pc := 24) hX d_Pa_constant_24 rfl 1 rfl ?_
      refine g_getI (pc := 25) hX fl_Pa_40 rfl f3 d_Pa_constant_25 ?_
      refine g_ineg (pc := 28) hX d_Pa_constant_28 ?_
      refine g_goto (pc := 29) (tgt := 36) hX d_Pa_constant_29 (by decide) ?_
      obtain ⟨f9, h⟩ := h
      refine g_callV_V (pc := 36) hX hR f9 cf3 rfl lk_Pa_164 mf_Li_addNumber (c_Li_addNumber _ _ _ _ h) rfl rfl rfl ⟨by decide, by decide⟩ (cat_sum _ (Nat.le_of_ble_eq_true rfl)) d_Pa_constant_36 (fun A8 h => ?_)
      refine g_iconst (pc := 39) (v := 1) hX d_Pa_constant_39 (by decide) ?_
      exact g_zret hX hQ true rfl h d_Pa_constant_40
  · have h := h.2 q
    refine g_iconst (pc := 14) (v := 0) hX d_Pa_constant_14 (by decide) ?_
    exact g_zret hX hQ false rfl h d_Pa_constant_15
def wp_Pa_callDefined (S : Nat → Mem → (Bool → Mem → Prop) → Prop) (o : Nat) (p1 : Int32) (A : Mem) (K : Bool → Mem → Prop) : Prop := wp_BM_isFunction p1 A (fun (r2 : Bool) (A1 : Mem) => ((r2 = true → kd o = 2 ∧ wp_Pa_operation o 12 (p1 - 65) (sI A1 o 1 ((gI A1 o 1) + 1)) (fun (r5 : Bool) (A4 : Mem) => ((r5 = false → K false A4) ∧ (r5 = true → wp_Pa_bracketed S o A4 (fun (r7 : Bool) (A6 : Mem) => ((r7 = false → K false A6) ∧ (r7 = true → wp_Pa_operation o 13 (p1 - 65) A6 (fun (r9 : Bool) (A8 : Mem) => ((r9 = false → K false A8) ∧ (r9 = true → K true A8)))))))))) ∧ (r2 = false → K false A1)))
set_option maxRecDepth 100000 in
set_option maxHeartbeats 4000000 in
theorem c_Pa_callDefined {fr lo : Nat} {S : Nat → Mem → (Bool → Mem → Prop) → Prop} (hS : ∀ (o : Nat) (A : Mem) (K : Bool → Mem → Prop), S o A K → CtZ y_Pa_sum prog_10_method_30_code 5 fr lo (fun E => [cr E o]) A K) (o : Nat) (p1 : Int32) (A : Mem) (K : Bool → Mem → Prop) (h : wp_Pa_callDefined S o p1 A K) : CtZ y_Pa_callDefined prog_10_method_37_code 2 (fr + 3) (lo + 61) (fun E => [cr E o, .int (p1)]) A K := by
  refine ctZ_of "BasicMachine$Parser" (by decide) rfl (fun E => [(0, cr E o), (1, .int (p1))]) (fun E => by simp [lg_sl, cr_cat, ca_i, ca_l, ca_d]) (fun E => by simp [lv_args, cr_cat, ca_i, ca_l, ca_d]) (fun X E hX hR hN hQ => ?_)
  unfold wp_Pa_callDefined at h
  refine g_iload_n (pc := 0) hX d_Pa_callDefined_0 rfl 1 rfl ?_
  refine g_callSN_Z (pc := 1) hX hR lk_Pa_183 mf_BM_isFunction (c_BM_isFunction _ _ _ h) rfl rfl rfl ⟨by omega, by omega⟩ (cat_sum _ (Nat.le_of_ble_eq_true rfl)) d_Pa_callDefined_1 (fun r2 A1 h => ?_)
  refine g_ifB_ne (pc := 4) (tgt := 9) hX d_Pa_callDefined_4 (by decide) (fun q => ?_) (fun q => ?_)
  · have h := h.1 q
    refine g_aload_n (pc := 9) hX d_Pa_callDefined_9 rfl 0 rfl ?_
    refine g_dup (pc := 10) hX d_Pa_callDefined_10 (cr_cat _ _) ?_
    obtain ⟨f3, h⟩ := h
    refine g_getI (pc := 11) hX fl_Pa_26 rfl f3 d_Pa_callDefined_11 ?_
    refine g_iconst (pc := 14) (v := 1) hX d_Pa_callDefined_14 (by decide) ?_
    refine g_iadd (pc := 15) hX d_Pa_callDefined_15 ?_
    refine g_putI (pc := 16) hX fl_Pa_26 rfl rfl rfl f3 d_Pa_callDefined_16 ?_
    refine g_aload_n (pc := 19) hX d_Pa_callDefined_19 rfl 0 rfl ?_
    refine g_bipush (pc := 20) (v := 12) hX d_Pa_callDefined_20 (by decide) ?_
    refine g_iload_n (pc := 22) hX d_Pa_callDefined_22 rfl 1 rfl ?_
    refine g_bipush (pc := 23) (v := 65) hX d_Pa_callDefined_23 (by decide) ?_
    refine g_isub (pc := 25) hX d_Pa_callDefined_25 ?_
    refine g_callV_Z (pc := 26) hX hR f3 cf2 rfl lk_Pa_259 mf_Pa_operation (c_Pa_operation _ _ _ _ _ h) rfl rfl rfl ⟨by omega, by omega⟩ (cat_sum _ (Nat.le_of_ble_eq_true rfl)) d_Pa_callDefined_26 (fun r5 A4 h => ?_)
    refine g_ifB_eq (pc := 29) (tgt := 56) hX d_Pa_callDefined_29 (by decide) (fun q => ?_) (fun q => ?_)
    · have h := h.1 q
      refine g_iconst (pc := 56) (v := 0) hX d_Pa_callDefined_56 (by decide) ?_
      exact g_zret hX hQ false rfl h d_Pa_callDefined_57
    · have h := h.2 q
      refine g_aload_n (pc := 32) hX d_Pa_callDefined_32 rfl 0 rfl ?_
      refine g_callV_Z (pc := 33) hX hR f3 cf2 rfl lk_Pa_269 mf_Pa_bracketed (c_Pa_bracketed hS _ _ _ h) rfl rfl rfl ⟨by omega, by omega⟩ (cat_sum _ (Nat.le_of_ble_eq_true rfl)) d_Pa_callDefined_33 (fun r7 A6 h => ?_)
      refine g_ifB_eq (pc := 36) (tgt := 56) hX d_Pa_callDefined_36 (by decide) (fun q => ?_) (fun q => ?_)
      · have h := h.1 q
        refine g_iconst (pc := 56) (v := 0) hX d_Pa_callDefined_56 (by decide) ?_
        exact g_zret hX hQ false rfl h d_Pa_callDefined_57
      · have h := h.2 q
        refine g_aload_n (pc := 39) hX d_Pa_callDefined_39 rfl 0 rfl ?_
        refine g_bipush (pc := 40) (v := 13) hX d_Pa_callDefined_40 (by decide) ?_
        refine g_iload_n (pc := 42) hX d_Pa_callDefined_42 rfl 1 rfl ?_
        refine g_bipush (pc := 43) (v := 65) hX d_Pa_callDefined_43 (by decide) ?_
        refine g_isub (pc := 45) hX d_Pa_callDefined_45 ?_
        refine g_callV_Z (pc := 46) hX hR f3 cf2 rfl lk_Pa_259 mf_Pa_operation (c_Pa_operation _ _ _ _ _ h) rfl rfl rfl ⟨by omega, by omega⟩ (cat_sum _ (Nat.le_of_ble_eq_true rfl)) d_Pa_callDefined_46 (fun r9 A8 h => ?_)
        refine g_ifB_eq (pc := 49) (tgt := 56) hX d_Pa_callDefined_49 (by decide) (fun q => ?_) (fun q => ?_)
        · have h := h.1 q
          refine g_iconst (pc := 56) (v := 0) hX d_Pa_callDefined_56 (by decide) ?_
          exact g_zret hX hQ false rfl h d_Pa_callDefined_57
        · have h := h.2 q
          refine g_iconst (pc := 52) (v := 1) hX d_Pa_callDefined_52 (by decide) ?_
          refine g_goto (pc := 53) (tgt := 57) hX d_Pa_callDefined_53 (by decide) ?_
          exact g_zret hX hQ true rfl h d_Pa_callDefined_57
  · have h := h.2 q
    refine g_iconst (pc := 7) (v := 0) hX d_Pa_callDefined_7 (by decide) ?_
    exact g_zret hX hQ false rfl h d_Pa_callDefined_8
def wp_Ca_workOut (o : Nat) (p1 : Nat) (p2 : Int32) (A : Mem) (K : UInt64 → Mem → Prop) : Prop := kd o = 6 ∧ wp_Ca_evaluate 5 o p1 p2 0 A (fun (r2 : UInt64) (A1 : Mem) => K r2 A1)
set_option maxRecDepth 100000 in
set_option maxHeartbeats 4000000 in
theorem c_Ca_workOut (o : Nat) (p1 : Nat) (p2 : Int32) (A : Mem) (K : UInt64 → Mem → Prop) (h : wp_Ca_workOut o p1 p2 A K) : CtD y_Ca_workOut prog_3_method_13_code 3 16 415 (fun E => [cr E o, cr E p1, .int (p2)]) A K := by
  refine ctD_of "BasicMachine$Calculator" (by decide) rfl (fun E => [(0, cr E o), (1, cr E p1), (2, .int (p2))]) (fun E => by simp [lg_sl, cr_cat, ca_i, ca_l, ca_d]) (fun E => by simp [lv_args, cr_cat, ca_i, ca_l, ca_d]) (fun X E hX hR hN hQ => ?_)
  unfold wp_Ca_workOut at h
  refine g_aload_n (pc := 0) hX d_Ca_workOut_0 rfl 0 rfl ?_
  refine g_aload_n (pc := 1) hX d_Ca_workOut_1 rfl 1 rfl ?_
  refine g_iload_n (pc := 2) hX d_Ca_workOut_2 rfl 2 rfl ?_
  refine g_iconst (pc := 3) (v := 0) hX d_Ca_workOut_3 (by decide) ?_
  obtain ⟨f3, h⟩ := h
  refine g_callV_D (pc := 4) hX hR f3 cf6 rfl lk_Ca_64 mf_Ca_evaluate (c_Ca_evaluate 5 _ _ _ _ _ _ h) rfl rfl rfl ⟨by decide, by decide⟩ (cat_sum _ (Nat.le_of_ble_eq_true rfl)) d_Ca_workOut_4 (fun r2 A1 h => ?_)
  exact g_dret hX hQ h d_Ca_workOut_7
def wp_Ca_mat_c104 (J89 : Nat → Nat → Nat → Nat → Nat → UInt64 → Int32 → Mem → Prop) (K : Mem → Prop) : Nat → Nat → Nat → Nat → Nat → Nat → UInt64 → Int32 → Int32 → Mem → Prop
  | 0, _, _, _, _, _, _, _, _, _ => False
  | n + 1, x0, x1, x2, x3, x4, x5, x7, x8, A => kd x0 = 6 ∧ kd (gR A x0 5) = 7 ∧ (((gI A (gR A x0 5) 1) < x8 → J89 x0 x1 x2 x3 x4 x5 (x7 + 1) A) ∧ (¬ (gI A (gR A x0 5) 1) < x8 → wp_Mx_placeOf (gR A x0 5) (Int32.toInt64 x7) (Int32.toInt64 x8) A (fun (r30 : Int32) (A29 : Mem) => kd x1 = 3 ∧ wp_Ca_entry x0 (gR A29 x1 7) x3 x4 x5 x7 x8 A29 (fun (r33 : UInt64) (A32 : Mem) => wp_Mx_set (gR A x0 5) r30 r33 A32 (fun (A34 : Mem) => wp_Ca_mat_c104 J89 K n x0 x1 x2 x3 x4 x5 x7 (x8 + 1) A34)))))
def wp_Ca_mat_c89 (K : Mem → Prop) : Nat → Nat → Nat → Nat → Nat → Nat → UInt64 → Int32 → Mem → Prop
  | 0, _, _, _, _, _, _, _, _ => False
  | n + 1, x0, x1, x2, x3, x4, x5, x7, A => kd x0 = 6 ∧ kd (gR A x0 5) = 7 ∧ (((gI A (gR A x0 5) 0) < x7 → wp_Ca_isFine x0 A (fun (r24 : Bool) (A23 : Mem) => ((r24 = false → K A23) ∧ (r24 = true → kd x2 = 7 ∧ wp_Mx_become x2 (gR A23 x0 5) A23 (fun (A25 : Mem) => K A25))))) ∧ (¬ (gI A (gR A x0 5) 0) < x7 → (∃ n9 : Nat, wp_Ca_mat_c104 (wp_Ca_mat_c89 K n) K n9 x0 x1 x2 x3 x4 x5 x7 1 A)))
def wp_Ca_mat (o : Nat) (p1 : Nat) (A : Mem) (K : Mem → Prop) : Prop := kd p1 = 3 ∧ kd o = 6 ∧ wp_Ca_matrixAt o (gI A p1 3) A (fun (r3 : Nat) (A2 : Mem) => wp_Li_numberAt p1 0 A2 (fun (r6 : Int32) (A5 : Mem) => wp_Ca_matrixAt o r6 A5 (fun (r8 : Nat) (A7 : Mem) => wp_Li_numberAt p1 1 A7 (fun (r10 : Int32) (A9 : Mem) => wp_Ca_matrixAt o r10 A9 (fun (r12 : Nat) (A11 : Mem) => wp_Ca_fits (gR A11 p1 7) r3 r8 r12 A11 (fun (r14 : Bool) (A13 : Mem) => ((r14 = true → enk (gR A13 p1 7) ∧ ((¬ (gR A13 p1 7) = 1108 → wp_Ca_shapeDraft o (gR A13 p1 7) r3 r8 r12 A13 (fun (A16 : Mem) => (∃ n9 : Nat, wp_Ca_mat_c89 K n9 o p1 r3 r8 r12 FP.dconst0 1 A16))) ∧ ((gR A13 p1 7) = 1108 → wp_Ca_workOut o p1 0 A13 (fun (r18 : UInt64) (A17 : Mem) => wp_Ca_shapeDraft o (gR A17 p1 7) r3 r8 r12 A17 (fun (A19 : Mem) => (∃ n9 : Nat, wp_Ca_mat_c89 K n9 o p1 r3 r8 r12 r18 1 A19)))))) ∧ (r14 = false → wp_Ca_fail o 1206 A13 (fun (A20 : Mem) => K A20)))))))))
set_option maxRecDepth 100000 in
set_option maxHeartbeats 4000000 in
theorem k_Ca_mat_c104 {X : CXT} {E : EVT} {K : Mem → Prop} {J89 : Nat → Nat → Nat → Nat → Nat → UInt64 → Int32 → Mem → Prop} (hX : Gd X E "BasicMachine$Calculator" prog_3_method_24_code) (hR : Rm X 17 437) (hN : xnL X = 9) (hQ : QV X E K) (hJ89 : ∀ (x0 : Nat) (x1 : Nat) (x2 : Nat) (x3 : Nat) (x4 : Nat) (x5 : UInt64) (x7 : Int32) (A : Mem), J89 x0 x1 x2 x3 x4 x5 x7 A → G X E A 89 [(0, cr E x0), (1, cr E x1), (2, cr E x2), (3, cr E x3), (4, cr E x4), (5, .double (x5)), (7, .int (x7))] []) : ∀ (n : Nat) (x0 : Nat) (x1 : Nat) (x2 : Nat) (x3 : Nat) (x4 : Nat) (x5 : UInt64) (x7 : Int32) (x8 : Int32) (A : Mem), wp_Ca_mat_c104 J89 K n x0 x1 x2 x3 x4 x5 x7 x8 A → G X E A 104 [(0, cr E x0), (1, cr E x1), (2, cr E x2), (3, cr E x3), (4, cr E x4), (5, .double (x5)), (7, .int (x7)), (8, .int (x8))] [] := by
  intro n
  induction n with
  | zero => intro x0 x1 x2 x3 x4 x5 x7 x8 A h; exact h.elim
  | succ n ih =>
    intro x0 x1 x2 x3 x4 x5 x7 x8 A h
    rw [wp_Ca_mat_c104] at h
    refine g_iload (pc := 104) hX d_Ca_mat_104 7 rfl ?_
    refine g_aload_n (pc := 106) hX d_Ca_mat_106 rfl 0 rfl ?_
    obtain ⟨f27, h⟩ := h
    refine g_getR (pc := 107) hX fl_Ca_37 rfl f27 d_Ca_mat_107 ?_
    obtain ⟨f28, h⟩ := h
    refine g_getI (pc := 110) hX fl_Ca_214 rfl f28 d_Ca_mat_110 ?_
    refine g_icmp_gt (pc := 113) (tgt := 159) hX d_Ca_mat_113 (by decide) (fun q => ?_) (fun q => ?_)
    · have h := h.1 q
      refine g_iinc (pc := 159) (v := (x7 + 1)) (lv0 := [(0, cr E x0), (1, cr E x1), (2, cr E x2), (3, cr E x3), (4, cr E x4), (5, .double (x5)), (8, .int (x8))]) hX d_Ca_mat_159 6 rfl rfl (by rw [hN]; decide) (g_st1 (ks := [0, 1, 2, 3, 4, 5, 7]) rfl rfl) ?_
      refine g_goto (pc := 162) (tgt := 89) hX d_Ca_mat_162 (by decide) ?_
      refine g_sub [1, 2, 3, 4, 5, 6, 0] rfl ?_
      exact hJ89 _ _ _ _ _ _ _ _ h
    · have h := h.2 q
      refine g_aload_n (pc := 116) hX d_Ca_mat_116 rfl 0 rfl ?_
      refine g_getR (pc := 117) hX fl_Ca_37 rfl f27 d_Ca_mat_117 ?_
      refine g_aload_n (pc := 120) hX d_Ca_mat_120 rfl 0 rfl ?_
      refine g_getR (pc := 121) hX fl_Ca_37 rfl f27 d_Ca_mat_121 ?_
      refine g_iload (pc := 124) hX d_Ca_mat_124 6 rfl ?_
      refine g_i2l (pc := 126) hX d_Ca_mat_126 ?_
      refine g_iload (pc := 127) hX d_Ca_mat_127 7 rfl ?_
      refine g_i2l (pc := 129) hX d_Ca_mat_129 ?_
      refine g_callV_I (pc := 130) hX hR f28 cf7 rfl lk_Ca_163 mf_Mx_placeOf (c_Mx_placeOf _ _ _ _ _ h) rfl rfl rfl ⟨by decide, by decide⟩ (cat_sum _ (Nat.le_of_ble_eq_true rfl)) d_Ca_mat_130 (fun r30 A29 h => ?_)
      refine g_aload_n (pc := 133) hX d_Ca_mat_133 rfl 0 rfl ?_
      refine g_aload_n (pc := 134) hX d_Ca_mat_134 rfl 1 rfl ?_
      obtain ⟨f31, h⟩ := h
      refine g_getR (pc := 135) hX fl_Ca_187 rfl f31 d_Ca_mat_135 ?_
      refine g_aload_n (pc := 138) hX d_Ca_mat_138 rfl 3 rfl ?_
      refine g_aload (pc := 139) hX d_Ca_mat_139 4 rfl ?_
      refine g_dload (pc := 141) hX d_Ca_mat_141 5 rfl ?_
      refine g_iload (pc := 143) hX d_Ca_mat_143 6 rfl ?_
      refine g_iload (pc := 145) hX d_Ca_mat_145 7 rfl ?_
      refine g_callV_D (pc := 147) hX hR f27 cf6 rfl lk_Ca_217 mf_Ca_entry (c_Ca_entry _ _ _ _ _ _ _ _ _ h) rfl rfl rfl ⟨by decide, by decide⟩ (cat_sum _ (Nat.le_of_ble_eq_true rfl)) d_Ca_mat_147 (fun r33 A32 h => ?_)
      refine g_callV_V (pc := 150) hX hR f28 cf7 rfl lk_Ca_221 mf_Mx_set (c_Mx_set _ _ _ _ _ h) rfl rfl rfl ⟨by decide, by decide⟩ (cat_sum _ (Nat.le_of_ble_eq_true rfl)) d_Ca_mat_150 (fun A34 h => ?_)
      refine g_iinc (pc := 153) (v := (x8 + 1)) (lv0 := [(7, .int (x7)), (0, cr E x0), (1, cr E x1), (2, cr E x2), (3, cr E x3), (4, cr E x4), (5, .double (x5))]) hX d_Ca_mat_153 7 rfl rfl (by rw [hN]; decide) (g_st1b (ks := [6, 0, 1, 2, 3, 4, 5]) rfl rfl rfl rfl) ?_
      refine g_goto (pc := 156) (tgt := 104) hX d_Ca_mat_156 (by decide) ?_
      refine g_sub [2, 3, 4, 5, 6, 7, 1, 0] rfl ?_
      exact ih _ _ _ _ _ _ _ _ _ h
set_option maxRecDepth 100000 in
set_option maxHeartbeats 4000000 in
theorem k_Ca_mat_c89 {X : CXT} {E : EVT} {K : Mem → Prop} (hX : Gd X E "BasicMachine$Calculator" prog_3_method_24_code) (hR : Rm X 17 437) (hN : xnL X = 9) (hQ : QV X E K) : ∀ (n : Nat) (x0 : Nat) (x1 : Nat) (x2 : Nat) (x3 : Nat) (x4 : Nat) (x5 : UInt64) (x7 : Int32) (A : Mem), wp_Ca_mat_c89 K n x0 x1 x2 x3 x4 x5 x7 A → G X E A 89 [(0, cr E x0), (1, cr E x1), (2, cr E x2), (3, cr E x3), (4, cr E x4), (5, .double (x5)), (7, .int (x7))] [] := by
  intro n
  induction n with
  | zero => intro x0 x1 x2 x3 x4 x5 x7 A h; exact h.elim
  | succ n ih =>
    intro x0 x1 x2 x3 x4 x5 x7 A h
    rw [wp_Ca_mat_c89] at h
    refine g_iload (pc := 89) hX d_Ca_mat_89 6 rfl ?_
    refine g_aload_n (pc := 91) hX d_Ca_mat_91 rfl 0 rfl ?_
    obtain ⟨f21, h⟩ := h
    refine g_getR (pc := 92) hX fl_Ca_37 rfl f21 d_Ca_mat_92 ?_
    obtain ⟨f22, h⟩ := h
    refine g_getI (pc := 95) hX fl_Ca_211 rfl f22 d_Ca_mat_95 ?_
    refine g_icmp_gt (pc := 98) (tgt := 165) hX d_Ca_mat_98 (by decide) (fun q => ?_) (fun q => ?_)
    · have h := h.1 q
      refine g_aload_n (pc := 165) hX d_Ca_mat_165 rfl 0 rfl ?_
      refine g_callV_Z (pc := 166) hX hR f21 cf6 rfl lk_Ca_85 mf_Ca_isFine (c_Ca_isFine _ _ _ h) rfl rfl rfl ⟨by decide, by decide⟩ (cat_sum _ (Nat.le_of_ble_eq_true rfl)) d_Ca_mat_166 (fun r24 A23 h => ?_)
      refine g_ifB_eq (pc := 169) (tgt := 180) hX d_Ca_mat_169 (by decide) (fun q => ?_) (fun q => ?_)
      · have h := h.1 q
        exact g_vret hX hQ h d_Ca_mat_180
      · have h := h.2 q
        refine g_aload_n (pc := 172) hX d_Ca_mat_172 rfl 2 rfl ?_
        refine g_aload_n (pc := 173) hX d_Ca_mat_173 rfl 0 rfl ?_
        refine g_getR (pc := 174) hX fl_Ca_37 rfl f21 d_Ca_mat_174 ?_
        obtain ⟨f26, h⟩ := h
        refine g_callV_V (pc := 177) hX hR f26 cf7 rfl lk_Ca_222 mf_Mx_become (c_Mx_become _ _ _ _ h) rfl rfl rfl ⟨by decide, by decide⟩ (cat_sum _ (Nat.le_of_ble_eq_true rfl)) d_Ca_mat_177 (fun A25 h => ?_)
        exact g_vret hX hQ h d_Ca_mat_180
    · have h := h.2 q
      refine g_iconst (pc := 101) (v := 1) hX d_Ca_mat_101 (by decide) ?_
      refine g_istore (pc := 102) (lv0 := [(7, .int (x7)), (0, cr E x0), (1, cr E x1), (2, cr E x2), (3, cr E x3), (4, cr E x4), (5, .double (x5))]) hX d_Ca_mat_102 (by rw [hN]; decide) (g_st1b (ks := [6, 0, 1, 2, 3, 4, 5]) rfl rfl rfl rfl) ?_
      refine g_sub [2, 3, 4, 5, 6, 7, 1, 0] rfl ?_
      obtain ⟨n9, h⟩ := h
      exact k_Ca_mat_c104 hX hR hN hQ ih n9 _ _ _ _ _ _ _ _ _ h
set_option maxRecDepth 100000 in
set_option maxHeartbeats 4000000 in
theorem c_Ca_mat (o : Nat) (p1 : Nat) (A : Mem) (K : Mem → Prop) (h : wp_Ca_mat o p1 A K) : CtV y_Ca_mat prog_3_method_24_code 9 17 437 (fun E => [cr E o, cr E p1]) A K := by
  refine ctV_of "BasicMachine$Calculator" (by decide) rfl (fun E => [(0, cr E o), (1, cr E p1)]) (fun E => by simp [lg_sl, cr_cat, ca_i, ca_l, ca_d]) (fun E => by simp [lv_args, cr_cat, ca_i, ca_l, ca_d]) (fun X E hX hR hN hQ => ?_)
  unfold wp_Ca_mat at h
  refine g_aload_n (pc := 0) hX d_Ca_mat_0 rfl 0 rfl ?_
  refine g_aload_n (pc := 1) hX d_Ca_mat_1 rfl 1 rfl ?_
  obtain ⟨f1, h⟩ := h
  refine g_getI (pc := 2) hX fl_Ca_177 rfl f1 d_Ca_mat_2 ?_
  obtain ⟨f4, h⟩ := h
  refine g_callV_R (pc := 5) hX hR f4 cf6 rfl lk_Ca_110 mf_Ca_matrixAt (c_Ca_matrixAt _ _ _ _ h) rfl rfl rfl ⟨by decide, by decide⟩ (cat_sum _ (Nat.le_of_ble_eq_true rfl)) d_Ca_mat_5 (fun r3 A2 h => ?_)
  refine g_astore_n (pc := 8) (lv0 := [(1, cr E p1), (0, cr E o)]) hX d_Ca_mat_8 rfl (by rw [hN]; decide) (g_st1b (ks := [1, 0]) rfl (cr_cat _ _) rfl rfl) ?_
  refine g_aload_n (pc := 9) hX d_Ca_mat_9 rfl 2 rfl ?_
  refine g_aload_n (pc := 10) hX d_Ca_mat_10 rfl 1 rfl ?_
  refine g_iconst (pc := 11) (v := 0) hX d_Ca_mat_11 (by decide) ?_
  refine g_callV_I (pc := 12) hX hR f1 cf3 rfl lk_Ca_184 mf_Li_numberAt (c_Li_numberAt _ _ _ _ h) rfl rfl rfl ⟨by decide, by decide⟩ (cat_sum _ (Nat.le_of_ble_eq_true rfl)) d_Ca_mat_12 (fun r6 A5 h => ?_)
  refine g_callV_R (pc := 15) hX hR f4 cf6 rfl lk_Ca_110 mf_Ca_matrixAt (c_Ca_matrixAt _ _ _ _ h) rfl rfl rfl ⟨by decide, by decide⟩ (cat_sum _ (Nat.le_of_ble_eq_true rfl)) d_Ca_mat_15 (fun r8 A7 h => ?_)
  refine g_astore_n (pc := 18) (lv0 := [(2, cr E r3), (1, cr E p1), (0, cr E o)]) hX d_Ca_mat_18 rfl (by rw [hN]; decide) (g_st1b (ks := [0, 1, 2]) rfl (cr_cat _ _) rfl rfl) ?_
  refine g_aload_n (pc := 19) hX d_Ca_mat_19 rfl 3 rfl ?_
  refine g_aload_n (pc := 20) hX d_Ca_mat_20 rfl 2 rfl ?_
  refine g_iconst (pc := 21) (v := 1) hX d_Ca_mat_21 (by decide) ?_
  refine g_callV_I (pc := 22) hX hR f1 cf3 rfl lk_Ca_184 mf_Li_numberAt (c_Li_numberAt _ _ _ _ h) rfl rfl rfl ⟨by decide, by decide⟩ (cat_sum _ (Nat.le_of_ble_eq_true rfl)) d_Ca_mat_22 (fun r10 A9 h => ?_)
  refine g_callV_R (pc := 25) hX hR f4 cf6 rfl lk_Ca_110 mf_Ca_matrixAt (c_Ca_matrixAt _ _ _ _ h) rfl rfl rfl ⟨by decide, by decide⟩ (cat_sum _ (Nat.le_of_ble_eq_true rfl)) d_Ca_mat_25 (fun r12 A11 h => ?_)
  refine g_astore (pc := 28) (lv0 := [(3, cr E r8), (2, cr E r3), (1, cr E p1), (0, cr E o)]) hX d_Ca_mat_28 (by rw [hN]; decide) (g_st1b (ks := [0, 1, 2, 3]) rfl (cr_cat _ _) rfl rfl) ?_
  refine g_aload_n (pc := 30) hX d_Ca_mat_30 rfl 3 rfl ?_
  refine g_getR (pc := 31) hX fl_Ca_187 rfl f1 d_Ca_mat_31 ?_
  refine g_aload_n (pc := 34) hX d_Ca_mat_34 rfl 2 rfl ?_
  refine g_aload_n (pc := 35) hX d_Ca_mat_35 rfl 1 rfl ?_
  refine g_aload (pc := 36) hX d_Ca_mat_36 0 rfl ?_
  refine g_callS_Z (pc := 38) hX hR lk_Ca_191 mf_Ca_fits (c_Ca_fits _ _ _ _ _ _ h) rfl rfl rfl ⟨by decide, by decide⟩ (cat_sum _ (Nat.le_of_ble_eq_true rfl)) d_Ca_mat_38 (fun r14 A13 h => ?_)
  refine g_ifB_ne (pc := 41) (tgt := 52) hX d_Ca_mat_41 (by decide) (fun q => ?_) (fun q => ?_)
  · have h := h.1 q
    refine g_aload_n (pc := 52) hX d_Ca_mat_52 rfl 3 rfl ?_
    refine g_getR (pc := 53) hX fl_Ca_187 rfl f1 d_Ca_mat_53 ?_
    refine g_getsE (pc := 56) (i := 8) hX (gSF hX).2.1 (by decide) rfl (by decide) ls_Ca_198 d_Ca_mat_56 ?_
    obtain ⟨f15, h⟩ := h
    refine g_acmp_ne (pc := 59) (tgt := 71) hX f15 (show enk 1108 by unfold enk; omega) d_Ca_mat_59 (by decide) (fun q => ?_) (fun q => ?_)
    · have h := h.1 q
      refine g_dconst0 (pc := 71) hX d_Ca_mat_71 ?_
      refine g_dstore (pc := 72) (lv0 := [(4, cr E r12), (3, cr E r8), (2, cr E r3), (1, cr E p1), (0, cr E o)]) hX d_Ca_mat_72 (by rw [hN]; decide) (g_st2b (ks := [0, 1, 2, 3, 4]) rfl (cr_cat _ _) rfl rfl rfl) ?_
      refine g_aload_n (pc := 74) hX d_Ca_mat_74 rfl 5 rfl ?_
      refine g_aload_n (pc := 75) hX d_Ca_mat_75 rfl 4 rfl ?_
      refine g_getR (pc := 76) hX fl_Ca_187 rfl f1 d_Ca_mat_76 ?_
      refine g_aload_n (pc := 79) hX d_Ca_mat_79 rfl 3 rfl ?_
      refine g_aload_n (pc := 80) hX d_Ca_mat_80 rfl 2 rfl ?_
      refine g_aload (pc := 81) hX d_Ca_mat_81 1 rfl ?_
      refine g_callV_V (pc := 83) hX hR f4 cf6 rfl lk_Ca_207 mf_Ca_shapeDraft (c_Ca_shapeDraft _ _ _ _ _ _ _ h) rfl rfl rfl ⟨by decide, by decide⟩ (cat_sum _ (Nat.le_of_ble_eq_true rfl)) d_Ca_mat_83 (fun A16 h => ?_)
      refine g_iconst (pc := 86) (v := 1) hX d_Ca_mat_86 (by decide) ?_
      refine g_istore (pc := 87) (lv0 := [(5, .double (FP.dconst0)), (4, cr E r12), (3, cr E r8), (2, cr E r3), (1, cr E p1), (0, cr E o)]) hX d_Ca_mat_87 (by rw [hN]; decide) (g_st1 (ks := [0, 1, 2, 3, 4, 5]) rfl rfl) ?_
      refine g_sub [6, 5, 4, 3, 2, 1, 0] rfl ?_
      obtain ⟨n9, h⟩ := h
      exact k_Ca_mat_c89 hX hR hN hQ n9 _ _ _ _ _ _ _ _ h
    · have h := h.2 q
      refine g_aload_n (pc := 62) hX d_Ca_mat_62 rfl 4 rfl ?_
      refine g_aload_n (pc := 63) hX d_Ca_mat_63 rfl 3 rfl ?_
      refine g_iconst (pc := 64) (v := 0) hX d_Ca_mat_64 (by decide) ?_
      refine g_callV_D (pc := 65) hX hR f4 cf6 rfl lk_Ca_203 mf_Ca_workOut (c_Ca_workOut _ _ _ _ _ h) rfl rfl rfl ⟨by decide, by decide⟩ (cat_sum _ (Nat.le_of_ble_eq_true rfl)) d_Ca_mat_65 (fun r18 A17 h => ?_)
      refine g_goto (pc := 68) (tgt := 72) hX d_Ca_mat_68 (by decide) ?_
      refine g_dstore (pc := 72) (lv0 := [(4, cr E r12), (3, cr E r8), (2, cr E r3), (1, cr E p1), (0, cr E o)]) hX d_Ca_mat_72 (by rw [hN]; decide) (g_st2b (ks := [0, 1, 2, 3, 4]) rfl (cr_cat _ _) rfl rfl rfl) ?_
      refine g_aload_n (pc := 74) hX d_Ca_mat_74 rfl 5 rfl ?_
      refine g_aload_n (pc := 75) hX d_Ca_mat_75 rfl 4 rfl ?_
      refine g_getR (pc := 76) hX fl_Ca_187 rfl f1 d_Ca_mat_76 ?_
      refine g_aload_n (pc := 79) hX d_Ca_mat_79 rfl 3 rfl ?_
      refine g_aload_n (pc := 80) hX d_Ca_mat_80 rfl 2 rfl ?_
      refine g_aload (pc := 81) hX d_Ca_mat_81 1 rfl ?_
      refine g_callV_V (pc := 83) hX hR f4 cf6 rfl lk_Ca_207 mf_Ca_shapeDraft (c_Ca_shapeDraft _ _ _ _ _ _ _ h) rfl rfl rfl ⟨by decide, by decide⟩ (cat_sum _ (Nat.le_of_ble_eq_true rfl)) d_Ca_mat_83 (fun A19 h => ?_)
      refine g_iconst (pc := 86) (v := 1) hX d_Ca_mat_86 (by decide) ?_
      refine g_istore (pc := 87) (lv0 := [(5, .double (r18)), (4, cr E r12), (3, cr E r8), (2, cr E r3), (1, cr E p1), (0, cr E o)]) hX d_Ca_mat_87 (by rw [hN]; decide) (g_st1 (ks := [0, 1, 2, 3, 4, 5]) rfl rfl) ?_
      refine g_sub [6, 5, 4, 3, 2, 1, 0] rfl ?_
      obtain ⟨n9, h⟩ := h
      exact k_Ca_mat_c89 hX hR hN hQ n9 _ _ _ _ _ _ _ _ h
  · have h := h.2 q
    refine g_aload_n (pc := 44) hX d_Ca_mat_44 rfl 4 rfl ?_
    refine g_getsE (pc := 45) (i := 6) hX (gSF hX).2.2.1 (by decide) rfl (by decide) ls_Ca_195 d_Ca_mat_45 ?_
    refine g_callV_V (pc := 48) hX hR f4 cf6 rfl lk_Ca_150 mf_Ca_fail (c_Ca_fail _ _ _ _ h) rfl rfl rfl ⟨by decide, by decide⟩ (cat_sum _ (Nat.le_of_ble_eq_true rfl)) d_Ca_mat_48 (fun A20 h => ?_)
    exact g_vret hX hQ h d_Ca_mat_51
def wp_Pa_constants_c7 (K : Bool → Mem → Prop) : Nat → Nat → Int32 → Int32 → Mem → Prop
  | 0, _, _, _, _ => False
  | n + 1, x0, x1, x2, A => ((6 ≤ x2 → isB x1 ∧ K (toB x1) A) ∧ (¬ 6 ≤ x2 → ((x1 = 0 → isB x1 ∧ K (toB x1) A) ∧ (¬ x1 = 0 → kd x0 = 2 ∧ wp_Pa_skip x0 44 A (fun (r7 : Bool) (A6 : Mem) => ((r7 = false → isB x1 ∧ K (toB x1) A6) ∧ (r7 = true → wp_Pa_constant x0 A6 (fun (r11 : Bool) (A10 : Mem) => wp_Pa_constants_c7 K n x0 (bI r11) (x2 + 1) A10))))))))
def wp_Pa_constants (o : Nat) (A : Mem) (K : Bool → Mem → Prop) : Prop := kd o = 2 ∧ wp_Pa_constant o A (fun (r2 : Bool) (A1 : Mem) => (∃ n9 : Nat, wp_Pa_constants_c7 K n9 o (bI r2) 1 A1))
set_option maxRecDepth 100000 in
set_option maxHeartbeats 4000000 in
theorem k_Pa_constants_c7 {X : CXT} {E : EVT} {K : Bool → Mem → Prop} (hX : Gd X E "BasicMachine$Parser" prog_10_method_15_code) (hR : Rm X 3 65) (hN : xnL X = 3) (hQ : QZ X E K) : ∀ (n : Nat) (x0 : Nat) (x1 : Int32) (x2 : Int32) (A : Mem), wp_Pa_constants_c7 K n x0 x1 x2 A → G X E A 7 [(0, cr E x0), (1, .int (x1)), (2, .int (x2))] [] := by
  intro n
  induction n with
  | zero => intro x0 x1 x2 A h; exact h.elim
  | succ n ih =>
    intro x0 x1 x2 A h
    rw [wp_Pa_constants_c7] at h
    refine g_iload_n (pc := 7) hX d_Pa_constants_7 rfl 2 rfl ?_
    refine g_bipush (pc := 8) (v := 6) hX d_Pa_constants_8 (by decide) ?_
    refine g_icmp_ge (pc := 10) (tgt := 37) hX d_Pa_constants_10 (by decide) (fun q => ?_) (fun q => ?_)
    · have h := h.1 q
      refine g_iload_n (pc := 37) hX d_Pa_constants_37 rfl 1 rfl ?_
      obtain ⟨f4, h⟩ := h
      exact g_zret hX hQ (toB x1) (bI_toB f4).symm h d_Pa_constants_38
    · have h := h.2 q
      refine g_iload_n (pc := 13) hX d_Pa_constants_13 rfl 1 rfl ?_
      refine g_if_eq (pc := 14) (tgt := 37) hX d_Pa_constants_14 (by decide) (fun q => ?_) (fun q => ?_)
      · have h := h.1 q
        refine g_iload_n (pc := 37) hX d_Pa_constants_37 rfl 1 rfl ?_
        obtain ⟨f5, h⟩ := h
        exact g_zret hX hQ (toB x1) (bI_toB f5).symm h d_Pa_constants_38
      · have h := h.2 q
        refine g_aload_n (pc := 17) hX d_Pa_constants_17 rfl 0 rfl ?_
        refine g_bipush (pc := 18) (v := 44) hX d_Pa_constants_18 (by decide) ?_
        obtain ⟨f8, h⟩ := h
        refine g_callV_Z (pc := 20) hX hR f8 cf2 rfl lk_Pa_68 mf_Pa_skip (c_Pa_skip _ _ _ _ h) rfl rfl rfl ⟨by decide, by decide⟩ (cat_sum _ (Nat.le_of_ble_eq_true rfl)) d_Pa_constants_20 (fun r7 A6 h => ?_)
        refine g_ifB_eq (pc := 23) (tgt := 37) hX d_Pa_constants_23 (by decide) (fun q => ?_) (fun q => ?_)
        · have h := h.1 q
          refine g_iload_n (pc := 37) hX d_Pa_constants_37 rfl 1 rfl ?_
          obtain ⟨f9, h⟩ := h
          exact g_zret hX hQ (toB x1) (bI_toB f9).symm h d_Pa_constants_38
        · have h := h.2 q
          refine g_aload_n (pc := 26) hX d_Pa_constants_26 rfl 0 rfl ?_
          refine g_callV_Z (pc := 27) hX hR f8 cf2 rfl lk_Pa_168 mf_Pa_constant (c_Pa_constant _ _ _ h) rfl rfl rfl ⟨by decide, by decide⟩ (cat_sum _ (Nat.le_of_ble_eq_true rfl)) d_Pa_constants_27 (fun r11 A10 h => ?_)
          refine g_istore_n (pc := 30) (lv0 := [(0, cr E x0), (2, .int (x2))]) hX d_Pa_constants_30 rfl (by rw [hN]; decide) (g_st1b (ks := [0, 2]) rfl (cr_cat _ _) rfl rfl) ?_
          refine g_iinc (pc := 31) (v := (x2 + 1)) (lv0 := [(1, .int (bI r11)), (0, cr E x0)]) hX d_Pa_constants_31 2 rfl rfl (by rw [hN]; decide) (g_st1b (ks := [0, 1]) rfl rfl rfl rfl) ?_
          refine g_goto (pc := 34) (tgt := 7) hX d_Pa_constants_34 (by decide) ?_
          refine g_sub [2, 1, 0] rfl ?_
          exact ih _ _ _ _ h
set_option maxRecDepth 100000 in
set_option maxHeartbeats 4000000 in
theorem c_Pa_constants (o : Nat) (A : Mem) (K : Bool → Mem → Prop) (h : wp_Pa_constants o A K) : CtZ y_Pa_constants prog_10_method_15_code 3 3 65 (fun E => [cr E o]) A K := by
  refine ctZ_of "BasicMachine$Parser" (by decide) rfl (fun E => [(0, cr E o)]) (fun E => by simp [lg_sl, cr_cat, ca_i, ca_l, ca_d]) (fun E => by simp [lv_args, cr_cat, ca_i, ca_l, ca_d]) (fun X E hX hR hN hQ => ?_)
  unfold wp_Pa_constants at h
  refine g_aload_n (pc := 0) hX d_Pa_constants_0 rfl 0 rfl ?_
  obtain ⟨f3, h⟩ := h
  refine g_callV_Z (pc := 1) hX hR f3 cf2 rfl lk_Pa_168 mf_Pa_constant (c_Pa_constant _ _ _ h) rfl rfl rfl ⟨by decide, by decide⟩ (cat_sum _ (Nat.le_of_ble_eq_true rfl)) d_Pa_constants_1 (fun r2 A1 h => ?_)
  refine g_istore_n (pc := 4) (lv0 := [(0, cr E o)]) hX d_Pa_constants_4 rfl (by rw [hN]; decide) (g_st1b (ks := [0]) rfl (cr_cat _ _) rfl rfl) ?_
  refine g_iconst (pc := 5) (v := 1) hX d_Pa_constants_5 (by decide) ?_
  refine g_istore_n (pc := 6) (lv0 := [(1, .int (bI r2)), (0, cr E o)]) hX d_Pa_constants_6 rfl (by rw [hN]; decide) (g_st1b (ks := [0, 1]) rfl rfl rfl rfl) ?_
  refine g_sub [2, 1, 0] rfl ?_
  obtain ⟨n9, h⟩ := h
  exact k_Pa_constants_c7 hX hR hN hQ n9 _ _ _ _ h
def wp_Pa_call (S : Nat → Mem → (Bool → Mem → Prop) → Prop) (o : Nat) (p1 : Int32) (A : Mem) (K : Bool → Mem → Prop) : Prop := kd o = 2 ∧ (((gI (sI A o 1 ((gI A o 1) + 1)) o 4) < 6 → ((p1 = 65 → wp_Pa_word o 2002 (sI A o 1 ((gI A o 1) + 1)) (fun (r3 : Bool) (A2 : Mem) => ((r3 = false → K false A2) ∧ (r3 = true → wp_Pa_bracketed S o A2 (fun (r5 : Bool) (A4 : Mem) => ((r5 = false → K false A4) ∧ (r5 = true → wp_Pa_operation o 9 0 A4 (fun (r7 : Bool) (A6 : Mem) => ((r7 = false → K false A6) ∧ (r7 = true → K true A6)))))))))) ∧ (p1 = 73 → wp_Pa_word o 2003 (sI A o 1 ((gI A o 1) + 1)) (fun (r9 : Bool) (A8 : Mem) => ((r9 = false → K false A8) ∧ (r9 = true → wp_Pa_bracketed S o A8 (fun (r11 : Bool) (A10 : Mem) => ((r11 = false → K false A10) ∧ (r11 = true → wp_Pa_operation o 10 0 A10 (fun (r13 : Bool) (A12 : Mem) => ((r13 = false → K false A12) ∧ (r13 = true → K true A12)))))))))) ∧ (p1 = 83 → wp_Pa_word o 2004 (sI A o 1 ((gI A o 1) + 1)) (fun (r15 : Bool) (A14 : Mem) => ((r15 = false → K false A14) ∧ (r15 = true → wp_Pa_bracketed S o A14 (fun (r17 : Bool) (A16 : Mem) => ((r17 = false → K false A16) ∧ (r17 = true → wp_Pa_operation o 11 0 A16 (fun (r19 : Bool) (A18 : Mem) => ((r19 = false → K false A18) ∧ (r19 = true → K true A18)))))))))) ∧ (¬ p1 = 65 → ¬ p1 = 73 → ¬ p1 = 83 → wp_Pa_word o 2005 (sI A o 1 ((gI A o 1) + 1)) (fun (r21 : Bool) (A20 : Mem) => ((r21 = false → K false A20) ∧ (r21 = true → wp_Pa_next o A20 (fun (r23 : Int32) (A22 : Mem) => wp_Pa_callDefined S o r23 A22 (fun (r25 : Bool) (A24 : Mem) => ((r25 = false → K false A24) ∧ (r25 = true → K true A24)))))))))) ∧ (¬ (gI (sI A o 1 ((gI A o 1) + 1)) o 4) < 6 → K false (sI A o 1 ((gI A o 1) + 1))))
set_option maxRecDepth 100000 in
set_option maxHeartbeats 4000000 in
theorem c_Pa_call {fr lo : Nat} {S : Nat → Mem → (Bool → Mem → Prop) → Prop} (hS : ∀ (o : Nat) (A : Mem) (K : Bool → Mem → Prop), S o A K → CtZ y_Pa_sum prog_10_method_30_code 5 fr lo (fun E => [cr E o]) A K) (o : Nat) (p1 : Int32) (A : Mem) (K : Bool → Mem → Prop) (h : wp_Pa_call S o p1 A K) : CtZ y_Pa_call prog_10_method_36_code 2 (fr + 5) (lo + 107) (fun E => [cr E o, .int (p1)]) A K := by
  refine ctZ_of "BasicMachine$Parser" (by decide) rfl (fun E => [(0, cr E o), (1, .int (p1))]) (fun E => by simp [lg_sl, cr_cat, ca_i, ca_l, ca_d]) (fun E => by simp [lv_args, cr_cat, ca_i, ca_l, ca_d]) (fun X E hX hR hN hQ => ?_)
  unfold wp_Pa_call at h
  refine g_aload_n (pc := 0) hX d_Pa_call_0 rfl 0 rfl ?_
  refine g_dup (pc := 1) hX d_Pa_call_1 (cr_cat _ _) ?_
  obtain ⟨f1, h⟩ := h
  refine g_getI (pc := 2) hX fl_Pa_26 rfl f1 d_Pa_call_2 ?_
  refine g_iconst (pc := 5) (v := 1) hX d_Pa_call_5 (by decide) ?_
  refine g_iadd (pc := 6) hX d_Pa_call_6 ?_
  refine g_putI (pc := 7) hX fl_Pa_26 rfl rfl rfl f1 d_Pa_call_7 ?_
  refine g_aload_n (pc := 10) hX d_Pa_call_10 rfl 0 rfl ?_
  refine g_getI (pc := 11) hX fl_Pa_30 rfl f1 d_Pa_call_11 ?_
  refine g_bipush (pc := 14) (v := 6) hX d_Pa_call_14 (by decide) ?_
  refine g_icmp_lt (pc := 16) (tgt := 21) hX d_Pa_call_16 (by decide) (fun q => ?_) (fun q => ?_)
  · have h := h.1 q
    refine g_iload_n (pc := 21) hX d_Pa_call_21 rfl 1 rfl ?_
    by_cases q0 : p1 = 65
    · have h := h.1 q0
      refine g_look (pc := 22) (tgt := 56) (off := 34) hX (v := 65) q0 d_Pa_call_22 (by decide +kernel) (by decide +kernel) (by decide) ?_
      refine g_aload_n (pc := 56) hX d_Pa_call_56 rfl 0 rfl ?_
      refine g_ldcwS (pc := 57) (i := 2) hX (List.mem_of_getElem? (i := 2) rfl) rfl d_Pa_call_57 ?_
      refine g_callV_Z (pc := 60) hX hR f1 cf2 rfl lk_Pa_120 mf_Pa_word (c_Pa_word _ _ _ _ h) rfl rfl rfl ⟨by omega, by omega⟩ (cat_sum _ (Nat.le_of_ble_eq_true rfl)) d_Pa_call_60 (fun r3 A2 h => ?_)
      refine g_ifB_eq (pc := 63) (tgt := 87) hX d_Pa_call_63 (by decide) (fun q => ?_) (fun q => ?_)
      · have h := h.1 q
        refine g_iconst (pc := 87) (v := 0) hX d_Pa_call_87 (by decide) ?_
        exact g_zret hX hQ false rfl h d_Pa_call_88
      · have h := h.2 q
        refine g_aload_n (pc := 66) hX d_Pa_call_66 rfl 0 rfl ?_
        refine g_callV_Z (pc := 67) hX hR f1 cf2 rfl lk_Pa_269 mf_Pa_bracketed (c_Pa_bracketed hS _ _ _ h) rfl rfl rfl ⟨by omega, by omega⟩ (cat_sum _ (Nat.le_of_ble_eq_true rfl)) d_Pa_call_67 (fun r5 A4 h => ?_)
        refine g_ifB_eq (pc := 70) (tgt := 87) hX d_Pa_call_70 (by decide) (fun q => ?_) (fun q => ?_)
        · have h := h.1 q
          refine g_iconst (pc := 87) (v := 0) hX d_Pa_call_87 (by decide) ?_
          exact g_zret hX hQ false rfl h d_Pa_call_88
        · have h := h.2 q
          refine g_aload_n (pc := 73) hX d_Pa_call_73 rfl 0 rfl ?_
          refine g_bipush (pc := 74) (v := 9) hX d_Pa_call_74 (by decide) ?_
          refine g_iconst (pc := 76) (v := 0) hX d_Pa_call_76 (by decide) ?_
          refine g_callV_Z (pc := 77) hX hR f1 cf2 rfl lk_Pa_259 mf_Pa_operation (c_Pa_operation _ _ _ _ _ h) rfl rfl rfl ⟨by omega, by omega⟩ (cat_sum _ (Nat.le_of_ble_eq_true rfl)) d_Pa_call_77 (fun r7 A6 h => ?_)
          refine g_ifB_eq (pc := 80) (tgt := 87) hX d_Pa_call_80 (by decide) (fun q => ?_) (fun q => ?_)
          · have h := h.1 q
            refine g_iconst (pc := 87) (v := 0) hX d_Pa_call_87 (by decide) ?_
            exact g_zret hX hQ false rfl h d_Pa_call_88
          · have h := h.2 q
            refine g_iconst (pc := 83) (v := 1) hX d_Pa_call_83 (by decide) ?_
            refine g_goto (pc := 84) (tgt := 88) hX d_Pa_call_84 (by decide) ?_
            exact g_zret hX hQ true rfl h d_Pa_call_88
    by_cases q1 : p1 = 73
    · have h := h.2.1 q1
      refine g_look (pc := 22) (tgt := 89) (off := 67) hX (v := 73) q1 d_Pa_call_22 (by decide +kernel) (by decide +kernel) (by decide) ?_
      refine g_aload_n (pc := 89) hX d_Pa_call_89 rfl 0 rfl ?_
      refine g_ldcwS (pc := 90) (i := 3) hX (List.mem_of_getElem? (i := 3) rfl) rfl d_Pa_call_90 ?_
      refine g_callV_Z (pc := 93) hX hR f1 cf2 rfl lk_Pa_120 mf_Pa_word (c_Pa_word _ _ _ _ h) rfl rfl rfl ⟨by omega, by omega⟩ (cat_sum _ (Nat.le_of_ble_eq_true rfl)) d_Pa_call_93 (fun r9 A8 h => ?_)
      refine g_ifB_eq (pc := 96) (tgt := 120) hX d_Pa_call_96 (by decide) (fun q => ?_) (fun q => ?_)
      · have h := h.1 q
        refine g_iconst (pc := 120) (v := 0) hX d_Pa_call_120 (by decide) ?_
        exact g_zret hX hQ false rfl h d_Pa_call_121
      · have h := h.2 q
        refine g_aload_n (pc := 99) hX d_Pa_call_99 rfl 0 rfl ?_
        refine g_callV_Z (pc := 100) hX hR f1 cf2 rfl lk_Pa_269 mf_Pa_bracketed (c_Pa_bracketed hS _ _ _ h) rfl rfl rfl ⟨by omega, by omega⟩ (cat_sum _ (Nat.le_of_ble_eq_true rfl)) d_Pa_call_100 (fun r11 A10 h => ?_)
        refine g_ifB_eq (pc := 103) (tgt := 120) hX d_Pa_call_103 (by decide) (fun q => ?_) (fun q => ?_)
        · have h := h.1 q
          refine g_iconst (pc := 120) (v := 0) hX d_Pa_call_120 (by decide) ?_
          exact g_zret hX hQ false rfl h d_Pa_call_121
        · have h := h.2 q
          refine g_aload_n (pc := 106) hX d_Pa_call_106 rfl 0 rfl ?_
          refine g_bipush (pc := 107) (v := 10) hX d_Pa_call_107 (by decide) ?_
          refine g_iconst (pc := 109) (v := 0) hX d_Pa_call_109 (by decide) ?_
          refine g_callV_Z (pc := 110) hX hR f1 cf2 rfl lk_Pa_259 mf_Pa_operation (c_Pa_operation _ _ _ _ _ h) rfl rfl rfl ⟨by omega, by omega⟩ (cat_sum _ (Nat.le_of_ble_eq_true rfl)) d_Pa_call_110 (fun r13 A12 h => ?_)
          refine g_ifB_eq (pc := 113) (tgt := 120) hX d_Pa_call_113 (by decide) (fun q => ?_) (fun q => ?_)
          · have h := h.1 q
            refine g_iconst (pc := 120) (v := 0) hX d_Pa_call_120 (by decide) ?_
            exact g_zret hX hQ false rfl h d_Pa_call_121
          · have h := h.2 q
            refine g_iconst (pc := 116) (v := 1) hX d_Pa_call_116 (by decide) ?_
            refine g_goto (pc := 117) (tgt := 121) hX d_Pa_call_117 (by decide) ?_
            exact g_zret hX hQ true rfl h d_Pa_call_121
    by_cases q2 : p1 = 83
    · have h := h.2.2.1 q2
      refine g_look (pc := 22) (tgt := 122) (off := 100) hX (v := 83) q2 d_Pa_call_22 (by decide +kernel) (by decide +kernel) (by decide) ?_
      refine g_aload_n (pc := 122) hX d_Pa_call_122 rfl 0 rfl ?_
      refine g_ldcwS (pc := 123) (i := 4) hX (List.mem_of_getElem? (i := 4) rfl) rfl d_Pa_call_123 ?_
      refine g_callV_Z (pc := 126) hX hR f1 cf2 rfl lk_Pa_120 mf_Pa_word (c_Pa_word _ _ _ _ h) rfl rfl rfl ⟨by omega, by omega⟩ (cat_sum _ (Nat.le_of_ble_eq_true rfl)) d_Pa_call_126 (fun r15 A14 h => ?_)
      refine g_ifB_eq (pc := 129) (tgt := 153) hX d_Pa_call_129 (by decide) (fun q => ?_) (fun q => ?_)
      · have h := h.1 q
        refine g_iconst (pc := 153) (v := 0) hX d_Pa_call_153 (by decide) ?_
        exact g_zret hX hQ false rfl h d_Pa_call_154
      · have h := h.2 q
        refine g_aload_n (pc := 132) hX d_Pa_call_132 rfl 0 rfl ?_
        refine g_callV_Z (pc := 133) hX hR f1 cf2 rfl lk_Pa_269 mf_Pa_bracketed (c_Pa_bracketed hS _ _ _ h) rfl rfl rfl ⟨by omega, by omega⟩ (cat_sum _ (Nat.le_of_ble_eq_true rfl)) d_Pa_call_133 (fun r17 A16 h => ?_)
        refine g_ifB_eq (pc := 136) (tgt := 153) hX d_Pa_call_136 (by decide) (fun q => ?_) (fun q => ?_)
        · have h := h.1 q
          refine g_iconst (pc := 153) (v := 0) hX d_Pa_call_153 (by decide) ?_
          exact g_zret hX hQ false rfl h d_Pa_call_154
        · have h := h.2 q
          refine g_aload_n (pc := 139) hX d_Pa_call_139 rfl 0 rfl ?_
          refine g_bipush (pc := 140) (v := 11) hX d_Pa_call_140 (by decide) ?_
          refine g_iconst (pc := 142) (v := 0) hX d_Pa_call_142 (by decide) ?_
          refine g_callV_Z (pc := 143) hX hR f1 cf2 rfl lk_Pa_259 mf_Pa_operation (c_Pa_operation _ _ _ _ _ h) rfl rfl rfl ⟨by omega, by omega⟩ (cat_sum _ (Nat.le_of_ble_eq_true rfl)) d_Pa_call_143 (fun r19 A18 h => ?_)
          refine g_ifB_eq (pc := 146) (tgt := 153) hX d_Pa_call_146 (by decide) (fun q => ?_) (fun q => ?_)
          · have h := h.1 q
            refine g_iconst (pc := 153) (v := 0) hX d_Pa_call_153 (by decide) ?_
            exact g_zret hX hQ false rfl h d_Pa_call_154
          · have h := h.2 q
            refine g_iconst (pc := 149) (v := 1) hX d_Pa_call_149 (by decide) ?_
            refine g_goto (pc := 150) (tgt := 154) hX d_Pa_call_150 (by decide) ?_
            exact g_zret hX hQ true rfl h d_Pa_call_154
    have h := h.2.2.2 q0 q1 q2
    refine g_lookout (pc := 22) (tgt := 155) hX (vs := [(65 : Int32), (73 : Int32), (83 : Int32)]) (List.forall_mem_cons.mpr ⟨q0, List.forall_mem_cons.mpr ⟨q1, List.forall_mem_cons.mpr ⟨q2, fun _ h9 => absurd h9 List.not_mem_nil⟩⟩⟩) d_Pa_call_22 (by decide +kernel) (by decide +kernel) (by decide) ?_
    refine g_aload_n (pc := 155) hX d_Pa_call_155 rfl 0 rfl ?_
    refine g_ldcwS (pc := 156) (i := 5) hX (List.mem_of_getElem? (i := 5) rfl) rfl d_Pa_call_156 ?_
    refine g_callV_Z (pc := 159) hX hR f1 cf2 rfl lk_Pa_120 mf_Pa_word (c_Pa_word _ _ _ _ h) rfl rfl rfl ⟨by omega, by omega⟩ (cat_sum _ (Nat.le_of_ble_eq_true rfl)) d_Pa_call_159 (fun r21 A20 h => ?_)
    refine g_ifB_eq (pc := 162) (tgt := 180) hX d_Pa_call_162 (by decide) (fun q => ?_) (fun q => ?_)
    · have h := h.1 q
      refine g_iconst (pc := 180) (v := 0) hX d_Pa_call_180 (by decide) ?_
      exact g_zret hX hQ false rfl h d_Pa_call_181
    · have h := h.2 q
      refine g_aload_n (pc := 165) hX d_Pa_call_165 rfl 0 rfl ?_
      refine g_aload_n (pc := 166) hX d_Pa_call_166 rfl 0 rfl ?_
      refine g_callV_I (pc := 167) hX hR f1 cf2 rfl lk_Pa_157 mf_Pa_next (c_Pa_next _ _ _ h) rfl rfl rfl ⟨by omega, by omega⟩ (cat_sum _ (Nat.le_of_ble_eq_true rfl)) d_Pa_call_167 (fun r23 A22 h => ?_)
      refine g_callV_Z (pc := 170) hX hR f1 cf2 rfl lk_Pa_296 mf_Pa_callDefined (c_Pa_callDefined hS _ _ _ _ h) rfl rfl rfl ⟨by omega, by omega⟩ (cat_sum _ (Nat.le_of_ble_eq_true rfl)) d_Pa_call_170 (fun r25 A24 h => ?_)
      refine g_ifB_eq (pc := 173) (tgt := 180) hX d_Pa_call_173 (by decide) (fun q => ?_) (fun q => ?_)
      · have h := h.1 q
        refine g_iconst (pc := 180) (v := 0) hX d_Pa_call_180 (by decide) ?_
        exact g_zret hX hQ false rfl h d_Pa_call_181
      · have h := h.2 q
        refine g_iconst (pc := 176) (v := 1) hX d_Pa_call_176 (by decide) ?_
        refine g_goto (pc := 177) (tgt := 181) hX d_Pa_call_177 (by decide) ?_
        exact g_zret hX hQ true rfl h d_Pa_call_181
  · have h := h.2 q
    refine g_iconst (pc := 19) (v := 0) hX d_Pa_call_19 (by decide) ?_
    exact g_zret hX hQ false rfl h d_Pa_call_20
def wp_Ma_targetPlace (o : Nat) (p1 : Nat) (A : Mem) (K : Int32 → Mem → Prop) : Prop := kd p1 = 3 ∧ ((¬ (gI A p1 4) = 0 → kd o = 4 ∧ kd (gR A o 1) = 6 ∧ wp_Ca_workOut (gR A o 1) p1 0 A (fun (r4 : UInt64) (A3 : Mem) => kd (gR A3 o 1) = 6 ∧ wp_Ca_workOut (gR A3 o 1) p1 1 A3 (fun (r7 : UInt64) (A6 : Mem) => kd (gR A6 o 1) = 6 ∧ wp_Ca_matrixAt (gR A6 o 1) (gI A6 p1 3) A6 (fun (r10 : Nat) (A9 : Mem) => kd r10 = 7 ∧ wp_Mx_placeOf r10 (FP.d2l r4) (FP.d2l r7) A9 (fun (r13 : Int32) (A12 : Mem) => ((0 ≤ r13 → K r13 A12) ∧ (¬ 0 ≤ r13 → kd (gR A12 o 1) = 6 ∧ wp_Ca_fail (gR A12 o 1) 1205 A12 (fun (A15 : Mem) => K r13 A15)))))))) ∧ ((gI A p1 4) = 0 → K 0 A))
set_option maxRecDepth 100000 in
set_option maxHeartbeats 4000000 in
theorem c_Ma_targetPlace (o : Nat) (p1 : Nat) (A : Mem) (K : Int32 → Mem → Prop) (h : wp_Ma_targetPlace o p1 A K) : CtI y_Ma_targetPlace prog_8_method_6_code 7 17 437 (fun E => [cr E o, cr E p1]) A K := by
  refine ctI_of "BasicMachine$Machine" (by decide) rfl (fun E => [(0, cr E o), (1, cr E p1)]) (fun E => by simp [lg_sl, cr_cat, ca_i, ca_l, ca_d]) (fun E => by simp [lv_args, cr_cat, ca_i, ca_l, ca_d]) (fun X E hX hR hN hQ => ?_)
  unfold wp_Ma_targetPlace at h
  refine g_aload_n (pc := 0) hX d_Ma_targetPlace_0 rfl 1 rfl ?_
  obtain ⟨f1, h⟩ := h
  refine g_getI (pc := 1) hX fl_Ma_205 rfl f1 d_Ma_targetPlace_1 ?_
  refine g_if_ne (pc := 4) (tgt := 9) hX d_Ma_targetPlace_4 (by decide) (fun q => ?_) (fun q => ?_)
  · have h := h.1 q
    refine g_aload_n (pc := 9) hX d_Ma_targetPlace_9 rfl 0 rfl ?_
    obtain ⟨f2, h⟩ := h
    refine g_getR (pc := 10) hX fl_Ma_21 rfl f2 d_Ma_targetPlace_10 ?_
    refine g_aload_n (pc := 13) hX d_Ma_targetPlace_13 rfl 1 rfl ?_
    refine g_iconst (pc := 14) (v := 0) hX d_Ma_targetPlace_14 (by decide) ?_
    obtain ⟨f5, h⟩ := h
    refine g_callV_D (pc := 15) hX hR f5 cf6 rfl lk_Ma_149 mf_Ca_workOut (c_Ca_workOut _ _ _ _ _ h) rfl rfl rfl ⟨by decide, by decide⟩ (cat_sum _ (Nat.le_of_ble_eq_true rfl)) d_Ma_targetPlace_15 (fun r4 A3 h => ?_)
    refine g_dstore_n (pc := 18) (lv0 := [(1, cr E p1), (0, cr E o)]) hX d_Ma_targetPlace_18 rfl (by rw [hN]; decide) (g_st2b (ks := [1, 0]) rfl (cr_cat _ _) rfl rfl rfl) ?_
    refine g_aload_n (pc := 19) hX d_Ma_targetPlace_19 rfl 2 rfl ?_
    refine g_getR (pc := 20) hX fl_Ma_21 rfl f2 d_Ma_targetPlace_20 ?_
    refine g_aload_n (pc := 23) hX d_Ma_targetPlace_23 rfl 1 rfl ?_
    refine g_iconst (pc := 24) (v := 1) hX d_Ma_targetPlace_24 (by decide) ?_
    obtain ⟨f8, h⟩ := h
    refine g_callV_D (pc := 25) hX hR f8 cf6 rfl lk_Ma_149 mf_Ca_workOut (c_Ca_workOut _ _ _ _ _ h) rfl rfl rfl ⟨by decide, by decide⟩ (cat_sum _ (Nat.le_of_ble_eq_true rfl)) d_Ma_targetPlace_25 (fun r7 A6 h => ?_)
    refine g_dstore (pc := 28) (lv0 := [(2, .double (r4)), (1, cr E p1), (0, cr E o)]) hX d_Ma_targetPlace_28 (by rw [hN]; decide) (g_st2 (ks := [0, 1, 2]) rfl rfl) ?_
    refine g_aload_n (pc := 30) hX d_Ma_targetPlace_30 rfl 3 rfl ?_
    refine g_getR (pc := 31) hX fl_Ma_21 rfl f2 d_Ma_targetPlace_31 ?_
    refine g_aload_n (pc := 34) hX d_Ma_targetPlace_34 rfl 2 rfl ?_
    refine g_getI (pc := 35) hX fl_Ma_176 rfl f1 d_Ma_targetPlace_35 ?_
    obtain ⟨f11, h⟩ := h
    refine g_callV_R (pc := 38) hX hR f11 cf6 rfl lk_Ma_185 mf_Ca_matrixAt (c_Ca_matrixAt _ _ _ _ h) rfl rfl rfl ⟨by decide, by decide⟩ (cat_sum _ (Nat.le_of_ble_eq_true rfl)) d_Ma_targetPlace_38 (fun r10 A9 h => ?_)
    refine g_dload_n (pc := 41) hX d_Ma_targetPlace_41 rfl 1 rfl ?_
    refine g_d2l (pc := 42) hX d_Ma_targetPlace_42 ?_
    refine g_dload (pc := 43) hX d_Ma_targetPlace_43 0 rfl ?_
    refine g_d2l (pc := 45) hX d_Ma_targetPlace_45 ?_
    obtain ⟨f14, h⟩ := h
    refine g_callV_I (pc := 46) hX hR f14 cf7 rfl lk_Ma_209 mf_Mx_placeOf (c_Mx_placeOf _ _ _ _ _ h) rfl rfl rfl ⟨by decide, by decide⟩ (cat_sum _ (Nat.le_of_ble_eq_true rfl)) d_Ma_targetPlace_46 (fun r13 A12 h => ?_)
    refine g_istore (pc := 49) (lv0 := [(4, .double (r7)), (2, .double (r4)), (1, cr E p1), (0, cr E o)]) hX d_Ma_targetPlace_49 (by rw [hN]; decide) (g_st1 (ks := [0, 1, 2, 3]) rfl rfl) ?_
    refine g_iload (pc := 51) hX d_Ma_targetPlace_51 0 rfl ?_
    refine g_if_ge (pc := 53) (tgt := 66) hX d_Ma_targetPlace_53 (by decide) (fun q => ?_) (fun q => ?_)
    · have h := h.1 q
      refine g_iload (pc := 66) hX d_Ma_targetPlace_66 0 rfl ?_
      exact g_iret hX hQ h d_Ma_targetPlace_68
    · have h := h.2 q
      refine g_aload_n (pc := 56) hX d_Ma_targetPlace_56 rfl 4 rfl ?_
      refine g_getR (pc := 57) hX fl_Ma_21 rfl f2 d_Ma_targetPlace_57 ?_
      refine g_getsE (pc := 60) (i := 5) hX (gSF hX).2.2.1 (by decide) rfl (by decide) ls_Ma_213 d_Ma_targetPlace_60 ?_
      obtain ⟨f16, h⟩ := h
      refine g_callV_V (pc := 63) hX hR f16 cf6 rfl lk_Ma_82 mf_Ca_fail (c_Ca_fail _ _ _ _ h) rfl rfl rfl ⟨by decide, by decide⟩ (cat_sum _ (Nat.le_of_ble_eq_true rfl)) d_Ma_targetPlace_63 (fun A15 h => ?_)
      refine g_iload (pc := 66) hX d_Ma_targetPlace_66 0 rfl ?_
      exact g_iret hX hQ h d_Ma_targetPlace_68
  · have h := h.2 q
    refine g_iconst (pc := 7) (v := 0) hX d_Ma_targetPlace_7 (by decide) ?_
    exact g_iret hX hQ h d_Ma_targetPlace_8
def wp_Ma_let (o : Nat) (p1 : Nat) (p2 : Int32) (A : Mem) (K : Mem → Prop) : Prop := kd o = 4 ∧ kd p1 = 3 ∧ (((gI A p1 4) = 0 → kd (gR A o 1) = 6 ∧ wp_Ca_workOut (gR A o 1) p1 0 A (fun (r4 : UInt64) (A3 : Mem) => wp_Ma_store o p1 p2 r4 A3 (fun (A6 : Mem) => K A6))) ∧ (¬ (gI A p1 4) = 0 → kd (gR A o 1) = 6 ∧ wp_Ca_workOut (gR A o 1) p1 2 A (fun (r8 : UInt64) (A7 : Mem) => wp_Ma_store o p1 p2 r8 A7 (fun (A10 : Mem) => K A10))))
set_option maxRecDepth 100000 in
set_option maxHeartbeats 4000000 in
theorem c_Ma_let (o : Nat) (p1 : Nat) (p2 : Int32) (A : Mem) (K : Mem → Prop) (h : wp_Ma_let o p1 p2 A K) : CtV y_Ma_let prog_8_method_7_code 3 17 437 (fun E => [cr E o, cr E p1, .int (p2)]) A K := by
  refine ctV_of "BasicMachine$Machine" (by decide) rfl (fun E => [(0, cr E o), (1, cr E p1), (2, .int (p2))]) (fun E => by simp [lg_sl, cr_cat, ca_i, ca_l, ca_d]) (fun E => by simp [lv_args, cr_cat, ca_i, ca_l, ca_d]) (fun X E hX hR hN hQ => ?_)
  unfold wp_Ma_let at h
  refine g_aload_n (pc := 0) hX d_Ma_let_0 rfl 0 rfl ?_
  refine g_aload_n (pc := 1) hX d_Ma_let_1 rfl 1 rfl ?_
  refine g_iload_n (pc := 2) hX d_Ma_let_2 rfl 2 rfl ?_
  refine g_aload_n (pc := 3) hX d_Ma_let_3 rfl 0 rfl ?_
  obtain ⟨f1, h⟩ := h
  refine g_getR (pc := 4) hX fl_Ma_21 rfl f1 d_Ma_let_4 ?_
  refine g_aload_n (pc := 7) hX d_Ma_let_7 rfl 1 rfl ?_
  refine g_aload_n (pc := 8) hX d_Ma_let_8 rfl 1 rfl ?_
  obtain ⟨f2, h⟩ := h
  refine g_getI (pc := 9) hX fl_Ma_205 rfl f2 d_Ma_let_9 ?_
  refine g_if_eq (pc := 12) (tgt := 19) hX d_Ma_let_12 (by decide) (fun q => ?_) (fun q => ?_)
  · have h := h.1 q
    refine g_iconst (pc := 19) (v := 0) hX d_Ma_let_19 (by decide) ?_
    obtain ⟨f5, h⟩ := h
    refine g_callV_D (pc := 20) hX hR f5 cf6 rfl lk_Ma_149 mf_Ca_workOut (c_Ca_workOut _ _ _ _ _ h) rfl rfl rfl ⟨by decide, by decide⟩ (cat_sum _ (Nat.le_of_ble_eq_true rfl)) d_Ma_let_20 (fun r4 A3 h => ?_)
    refine g_callV_V (pc := 23) hX hR f1 cf4 rfl lk_Ma_216 mf_Ma_store (c_Ma_store _ _ _ _ _ _ h) rfl rfl rfl ⟨by decide, by decide⟩ (cat_sum _ (Nat.le_of_ble_eq_true rfl)) d_Ma_let_23 (fun A6 h => ?_)
    exact g_vret hX hQ h d_Ma_let_26
  · have h := h.2 q
    refine g_iconst (pc := 15) (v := 2) hX d_Ma_let_15 (by decide) ?_
    refine g_goto (pc := 16) (tgt := 20) hX d_Ma_let_16 (by decide) ?_
    obtain ⟨f9, h⟩ := h
    refine g_callV_D (pc := 20) hX hR f9 cf6 rfl lk_Ma_149 mf_Ca_workOut (c_Ca_workOut _ _ _ _ _ h) rfl rfl rfl ⟨by decide, by decide⟩ (cat_sum _ (Nat.le_of_ble_eq_true rfl)) d_Ma_let_20 (fun r8 A7 h => ?_)
    refine g_callV_V (pc := 23) hX hR f1 cf4 rfl lk_Ma_216 mf_Ma_store (c_Ma_store _ _ _ _ _ _ h) rfl rfl rfl ⟨by decide, by decide⟩ (cat_sum _ (Nat.le_of_ble_eq_true rfl)) d_Ma_let_23 (fun A10 h => ?_)
    exact g_vret hX hQ h d_Ma_let_26
def wp_Ma_goIf_c44 (K : Mem → Prop) (x0 : Nat) (x1 : Nat) (s0 : Int32) (A : Mem) : Prop := kd x0 = 4 ∧ kd (gR A x0 1) = 6 ∧ wp_Ca_isFine (gR A x0 1) A (fun (r10 : Bool) (A9 : Mem) => ((r10 = false → K A9) ∧ (r10 = true → kd x1 = 3 ∧ ((((gI A9 x1 6) &&& s0) = 0 → K A9) ∧ (¬ ((gI A9 x1 6) &&& s0) = 0 → wp_Li_numberAt x1 0 A9 (fun (r14 : Int32) (A13 : Mem) => wp_Ma_goTo x0 r14 A13 (fun (A15 : Mem) => K A15)))))))
def wp_Ma_goIf (o : Nat) (p1 : Nat) (A : Mem) (K : Mem → Prop) : Prop := kd o = 4 ∧ kd (gR A o 1) = 6 ∧ wp_Ca_workOut (gR A o 1) p1 0 A (fun (r3 : UInt64) (A2 : Mem) => kd (gR A2 o 1) = 6 ∧ wp_Ca_workOut (gR A2 o 1) p1 1 A2 (fun (r6 : UInt64) (A5 : Mem) => ((0 ≤ (Op.cmpValue (FP.dcmp r3 r6) .g) → (((Op.cmpValue (FP.dcmp r3 r6) .l) ≤ 0 → wp_Ma_goIf_c44 K o p1 2 A5) ∧ (¬ (Op.cmpValue (FP.dcmp r3 r6) .l) ≤ 0 → wp_Ma_goIf_c44 K o p1 4 A5))) ∧ (¬ 0 ≤ (Op.cmpValue (FP.dcmp r3 r6) .g) → wp_Ma_goIf_c44 K o p1 1 A5))))
set_option maxRecDepth 100000 in
set_option maxHeartbeats 4000000 in
theorem k_Ma_goIf_c44 {X : CXT} {E : EVT} {K : Mem → Prop} (hX : Gd X E "BasicMachine$Machine" prog_8_method_12_code) (hR : Rm X 17 437) (hN : xnL X = 7) (hQ : QV X E K) (x0 : Nat) (x1 : Nat) (s0 : Int32) (A : Mem) (h : wp_Ma_goIf_c44 K x0 x1 s0 A) : G X E A 44 [(0, cr E x0), (1, cr E x1)] [.int (s0)] := by
  unfold wp_Ma_goIf_c44 at h
  refine g_istore (pc := 44) (lv0 := [(0, cr E x0), (1, cr E x1)]) hX d_Ma_goIf_44 (by rw [hN]; decide) (g_st1 (ks := [0, 1]) rfl rfl) ?_
  refine g_aload_n (pc := 46) hX d_Ma_goIf_46 rfl 1 rfl ?_
  obtain ⟨f8, h⟩ := h
  refine g_getR (pc := 47) hX fl_Ma_21 rfl f8 d_Ma_goIf_47 ?_
  obtain ⟨f11, h⟩ := h
  refine g_callV_Z (pc := 50) hX hR f11 cf6 rfl lk_Ma_72 mf_Ca_isFine (c_Ca_isFine _ _ _ h) rfl rfl rfl ⟨by decide, by decide⟩ (cat_sum _ (Nat.le_of_ble_eq_true rfl)) d_Ma_goIf_50 (fun r10 A9 h => ?_)
  refine g_ifB_eq (pc := 53) (tgt := 75) hX d_Ma_goIf_53 (by decide) (fun q => ?_) (fun q => ?_)
  · have h := h.1 q
    exact g_vret hX hQ h d_Ma_goIf_75
  · have h := h.2 q
    refine g_aload_n (pc := 56) hX d_Ma_goIf_56 rfl 2 rfl ?_
    obtain ⟨f12, h⟩ := h
    refine g_getI (pc := 57) hX fl_Ma_231 rfl f12 d_Ma_goIf_57 ?_
    refine g_iload (pc := 60) hX d_Ma_goIf_60 0 rfl ?_
    refine g_iand (pc := 62) hX d_Ma_goIf_62 ?_
    refine g_if_eq (pc := 63) (tgt := 75) hX d_Ma_goIf_63 (by decide) (fun q => ?_) (fun q => ?_)
    · have h := h.1 q
      exact g_vret hX hQ h d_Ma_goIf_75
    · have h := h.2 q
      refine g_aload_n (pc := 66) hX d_Ma_goIf_66 rfl 1 rfl ?_
      refine g_aload_n (pc := 67) hX d_Ma_goIf_67 rfl 2 rfl ?_
      refine g_iconst (pc := 68) (v := 0) hX d_Ma_goIf_68 (by decide) ?_
      refine g_callV_I (pc := 69) hX hR f12 cf3 rfl lk_Ma_126 mf_Li_numberAt (c_Li_numberAt _ _ _ _ h) rfl rfl rfl ⟨by decide, by decide⟩ (cat_sum _ (Nat.le_of_ble_eq_true rfl)) d_Ma_goIf_69 (fun r14 A13 h => ?_)
      refine g_callV_V (pc := 72) hX hR f8 cf4 rfl lk_Ma_160 mf_Ma_goTo (c_Ma_goTo _ _ _ _ h) rfl rfl rfl ⟨by decide, by decide⟩ (cat_sum _ (Nat.le_of_ble_eq_true rfl)) d_Ma_goIf_72 (fun A15 h => ?_)
      exact g_vret hX hQ h d_Ma_goIf_75
set_option maxRecDepth 100000 in
set_option maxHeartbeats 4000000 in
theorem c_Ma_goIf (o : Nat) (p1 : Nat) (A : Mem) (K : Mem → Prop) (h : wp_Ma_goIf o p1 A K) : CtV y_Ma_goIf prog_8_method_12_code 7 17 437 (fun E => [cr E o, cr E p1]) A K := by
  refine ctV_of "BasicMachine$Machine" (by decide) rfl (fun E => [(0, cr E o), (1, cr E p1)]) (fun E => by simp [lg_sl, cr_cat, ca_i, ca_l, ca_d]) (fun E => by simp [lv_args, cr_cat, ca_i, ca_l, ca_d]) (fun X E hX hR hN hQ => ?_)
  unfold wp_Ma_goIf at h
  refine g_aload_n (pc := 0) hX d_Ma_goIf_0 rfl 0 rfl ?_
  obtain ⟨f1, h⟩ := h
  refine g_getR (pc := 1) hX fl_Ma_21 rfl f1 d_Ma_goIf_1 ?_
  refine g_aload_n (pc := 4) hX d_Ma_goIf_4 rfl 1 rfl ?_
  refine g_iconst (pc := 5) (v := 0) hX d_Ma_goIf_5 (by decide) ?_
  obtain ⟨f4, h⟩ := h
  refine g_callV_D (pc := 6) hX hR f4 cf6 rfl lk_Ma_149 mf_Ca_workOut (c_Ca_workOut _ _ _ _ _ h) rfl rfl rfl ⟨by decide, by decide⟩ (cat_sum _ (Nat.le_of_ble_eq_true rfl)) d_Ma_goIf_6 (fun r3 A2 h => ?_)
  refine g_dstore_n (pc := 9) (lv0 := [(1, cr E p1), (0, cr E o)]) hX d_Ma_goIf_9 rfl (by rw [hN]; decide) (g_st2b (ks := [1, 0]) rfl (cr_cat _ _) rfl rfl rfl) ?_
  refine g_aload_n (pc := 10) hX d_Ma_goIf_10 rfl 2 rfl ?_
  refine g_getR (pc := 11) hX fl_Ma_21 rfl f1 d_Ma_goIf_11 ?_
  refine g_aload_n (pc := 14) hX d_Ma_goIf_14 rfl 1 rfl ?_
  refine g_iconst (pc := 15) (v := 1) hX d_Ma_goIf_15 (by decide) ?_
  obtain ⟨f7, h⟩ := h
  refine g_callV_D (pc := 16) hX hR f7 cf6 rfl lk_Ma_149 mf_Ca_workOut (c_Ca_workOut _ _ _ _ _ h) rfl rfl rfl ⟨by decide, by decide⟩ (cat_sum _ (Nat.le_of_ble_eq_true rfl)) d_Ma_goIf_16 (fun r6 A5 h => ?_)
  refine g_dstore (pc := 19) (lv0 := [(2, .double (r3)), (1, cr E p1), (0, cr E o)]) hX d_Ma_goIf_19 (by rw [hN]; decide) (g_st2 (ks := [0, 1, 2]) rfl rfl) ?_
  refine g_dload_n (pc := 21) hX d_Ma_goIf_21 rfl 1 rfl ?_
  refine g_dload (pc := 22) hX d_Ma_goIf_22 0 rfl ?_
  refine g_dcmp (pc := 24) hX d_Ma_goIf_24 ?_
  refine g_if_ge (pc := 25) (tgt := 32) hX d_Ma_goIf_25 (by decide) (fun q => ?_) (fun q => ?_)
  · have h := h.1 q
    refine g_dload_n (pc := 32) hX d_Ma_goIf_32 rfl 1 rfl ?_
    refine g_dload (pc := 33) hX d_Ma_goIf_33 0 rfl ?_
    refine g_dcmp (pc := 35) hX d_Ma_goIf_35 ?_
    refine g_if_le (pc := 36) (tgt := 43) hX d_Ma_goIf_36 (by decide) (fun q => ?_) (fun q => ?_)
    · have h := h.1 q
      refine g_iconst (pc := 43) (v := 2) hX d_Ma_goIf_43 (by decide) ?_
      refine g_sub [3, 2] rfl ?_
      exact k_Ma_goIf_c44 hX hR hN hQ _ _ _ _ h
    · have h := h.2 q
      refine g_iconst (pc := 39) (v := 4) hX d_Ma_goIf_39 (by decide) ?_
      refine g_goto (pc := 40) (tgt := 44) hX d_Ma_goIf_40 (by decide) ?_
      refine g_sub [3, 2] rfl ?_
      exact k_Ma_goIf_c44 hX hR hN hQ _ _ _ _ h
  · have h := h.2 q
    refine g_iconst (pc := 28) (v := 1) hX d_Ma_goIf_28 (by decide) ?_
    refine g_goto (pc := 29) (tgt := 44) hX d_Ma_goIf_29 (by decide) ?_
    refine g_sub [3, 2] rfl ?_
    exact k_Ma_goIf_c44 hX hR hN hQ _ _ _ _ h
def wp_Ma_goToChosen (o : Nat) (p1 : Nat) (A : Mem) (K : Mem → Prop) : Prop := kd o = 4 ∧ kd (gR A o 1) = 6 ∧ wp_Ca_workOut (gR A o 1) p1 0 A (fun (r3 : UInt64) (A2 : Mem) => kd (gR A2 o 1) = 6 ∧ wp_Ca_isFine (gR A2 o 1) A2 (fun (r6 : Bool) (A5 : Mem) => ((r6 = true → (((lg_cmp (FP.d2l r3) 1) < 0 → kd (gR A5 o 1) = 6 ∧ wp_Ca_fail (gR A5 o 1) 1201 A5 (fun (A8 : Mem) => K A8)) ∧ (¬ (lg_cmp (FP.d2l r3) 1) < 0 → kd p1 = 3 ∧ (((lg_cmp (FP.d2l r3) (Int32.toInt64 (gI A5 p1 9))) ≤ 0 → wp_Li_numberAt p1 ((Int64.toInt32 (FP.d2l r3)) - 1) A5 (fun (r12 : Int32) (A11 : Mem) => wp_Ma_goTo o r12 A11 (fun (A13 : Mem) => K A13))) ∧ (¬ (lg_cmp (FP.d2l r3) (Int32.toInt64 (gI A5 p1 9))) ≤ 0 → kd (gR A5 o 1) = 6 ∧ wp_Ca_fail (gR A5 o 1) 1201 A5 (fun (A14 : Mem) => K A14)))))) ∧ (r6 = false → K A5))))
set_option maxRecDepth 100000 in
set_option maxHeartbeats 4000000 in
theorem c_Ma_goToChosen (o : Nat) (p1 : Nat) (A : Mem) (K : Mem → Prop) (h : wp_Ma_goToChosen o p1 A K) : CtV y_Ma_goToChosen prog_8_method_13_code 4 17 437 (fun E => [cr E o, cr E p1]) A K := by
  refine ctV_of "BasicMachine$Machine" (by decide) rfl (fun E => [(0, cr E o), (1, cr E p1)]) (fun E => by simp [lg_sl, cr_cat, ca_i, ca_l, ca_d]) (fun E => by simp [lv_args, cr_cat, ca_i, ca_l, ca_d]) (fun X E hX hR hN hQ => ?_)
  unfold wp_Ma_goToChosen at h
  refine g_aload_n (pc := 0) hX d_Ma_goToChosen_0 rfl 0 rfl ?_
  obtain ⟨f1, h⟩ := h
  refine g_getR (pc := 1) hX fl_Ma_21 rfl f1 d_Ma_goToChosen_1 ?_
  refine g_aload_n (pc := 4) hX d_Ma_goToChosen_4 rfl 1 rfl ?_
  refine g_iconst (pc := 5) (v := 0) hX d_Ma_goToChosen_5 (by decide) ?_
  obtain ⟨f4, h⟩ := h
  refine g_callV_D (pc := 6) hX hR f4 cf6 rfl lk_Ma_149 mf_Ca_workOut (c_Ca_workOut _ _ _ _ _ h) rfl rfl rfl ⟨by decide, by decide⟩ (cat_sum _ (Nat.le_of_ble_eq_true rfl)) d_Ma_goToChosen_6 (fun r3 A2 h => ?_)
  refine g_d2l (pc := 9) hX d_Ma_goToChosen_9 ?_
  refine g_lstore_n (pc := 10) (lv0 := [(1, cr E p1), (0, cr E o)]) hX d_Ma_goToChosen_10 rfl (by rw [hN]; decide) (g_st2b (ks := [1, 0]) rfl (cr_cat _ _) rfl rfl rfl) ?_
  refine g_aload_n (pc := 11) hX d_Ma_goToChosen_11 rfl 2 rfl ?_
  refine g_getR (pc := 12) hX fl_Ma_21 rfl f1 d_Ma_goToChosen_12 ?_
  obtain ⟨f7, h⟩ := h
  refine g_callV_Z (pc := 15) hX hR f7 cf6 rfl lk_Ma_72 mf_Ca_isFine (c_Ca_isFine _ _ _ h) rfl rfl rfl ⟨by decide, by decide⟩ (cat_sum _ (Nat.le_of_ble_eq_true rfl)) d_Ma_goToChosen_15 (fun r6 A5 h => ?_)
  refine g_ifB_ne (pc := 18) (tgt := 22) hX d_Ma_goToChosen_18 (by decide) (fun q => ?_) (fun q => ?_)
  · have h := h.1 q
    refine g_lload_n (pc := 22) hX d_Ma_goToChosen_22 rfl 0 rfl ?_
    refine g_lconst (pc := 23) (v := 1) hX d_Ma_goToChosen_23 (by decide) ?_
    refine g_lcmp (pc := 24) hX d_Ma_goToChosen_24 ?_
    refine g_if_lt (pc := 25) (tgt := 38) hX d_Ma_goToChosen_25 (by decide) (fun q => ?_) (fun q => ?_)
    · have h := h.1 q
      refine g_aload_n (pc := 38) hX d_Ma_goToChosen_38 rfl 2 rfl ?_
      refine g_getR (pc := 39) hX fl_Ma_21 rfl f1 d_Ma_goToChosen_39 ?_
      refine g_getsE (pc := 42) (i := 1) hX (gSF hX).2.2.1 (by decide) rfl (by decide) ls_Ma_234 d_Ma_goToChosen_42 ?_
      obtain ⟨f9, h⟩ := h
      refine g_callV_V (pc := 45) hX hR f9 cf6 rfl lk_Ma_82 mf_Ca_fail (c_Ca_fail _ _ _ _ h) rfl rfl rfl ⟨by decide, by decide⟩ (cat_sum _ (Nat.le_of_ble_eq_true rfl)) d_Ma_goToChosen_45 (fun A8 h => ?_)
      exact g_vret hX hQ h d_Ma_goToChosen_48
    · have h := h.2 q
      refine g_lload_n (pc := 28) hX d_Ma_goToChosen_28 rfl 0 rfl ?_
      refine g_aload_n (pc := 29) hX d_Ma_goToChosen_29 rfl 1 rfl ?_
      obtain ⟨f10, h⟩ := h
      refine g_getI (pc := 30) hX fl_Ma_123 rfl f10 d_Ma_goToChosen_30 ?_
      refine g_i2l (pc := 33) hX d_Ma_goToChosen_33 ?_
      refine g_lcmp (pc := 34) hX d_Ma_goToChosen_34 ?_
      refine g_if_le (pc := 35) (tgt := 49) hX d_Ma_goToChosen_35 (by decide) (fun q => ?_) (fun q => ?_)
      · have h := h.1 q
        refine g_aload_n (pc := 49) hX d_Ma_goToChosen_49 rfl 2 rfl ?_
        refine g_aload_n (pc := 50) hX d_Ma_goToChosen_50 rfl 1 rfl ?_
        refine g_lload_n (pc := 51) hX d_Ma_goToChosen_51 rfl 0 rfl ?_
        refine g_l2i (pc := 52) hX d_Ma_goToChosen_52 ?_
        refine g_iconst (pc := 53) (v := 1) hX d_Ma_goToChosen_53 (by decide) ?_
        refine g_isub (pc := 54) hX d_Ma_goToChosen_54 ?_
        refine g_callV_I (pc := 55) hX hR f10 cf3 rfl lk_Ma_126 mf_Li_numberAt (c_Li_numberAt _ _ _ _ h) rfl rfl rfl ⟨by decide, by decide⟩ (cat_sum _ (Nat.le_of_ble_eq_true rfl)) d_Ma_goToChosen_55 (fun r12 A11 h => ?_)
        refine g_callV_V (pc := 58) hX hR f1 cf4 rfl lk_Ma_160 mf_Ma_goTo (c_Ma_goTo _ _ _ _ h) rfl rfl rfl ⟨by decide, by decide⟩ (cat_sum _ (Nat.le_of_ble_eq_true rfl)) d_Ma_goToChosen_58 (fun A13 h => ?_)
        exact g_vret hX hQ h d_Ma_goToChosen_61
      · have h := h.2 q
        refine g_aload_n (pc := 38) hX d_Ma_goToChosen_38 rfl 2 rfl ?_
        refine g_getR (pc := 39) hX fl_Ma_21 rfl f1 d_Ma_goToChosen_39 ?_
        refine g_getsE (pc := 42) (i := 1) hX (gSF hX).2.2.1 (by decide) rfl (by decide) ls_Ma_234 d_Ma_goToChosen_42 ?_
        obtain ⟨f15, h⟩ := h
        refine g_callV_V (pc := 45) hX hR f15 cf6 rfl lk_Ma_82 mf_Ca_fail (c_Ca_fail _ _ _ _ h) rfl rfl rfl ⟨by decide, by decide⟩ (cat_sum _ (Nat.le_of_ble_eq_true rfl)) d_Ma_goToChosen_45 (fun A14 h => ?_)
        exact g_vret hX hQ h d_Ma_goToChosen_48
  · have h := h.2 q
    exact g_vret hX hQ h d_Ma_goToChosen_21
def wp_Ma_beginLoop_c89 (K : Mem → Prop) (x0 : Nat) (x1 : Nat) (x2 : UInt64) (x4 : UInt64) (x6 : UInt64) (s0 : Int32) (s1 : Nat) (A : Mem) : Prop := kd s1 = 8 ∧ kd x0 = 4 ∧ kd x1 = 3 ∧ kd (gR (sI A s1 0 s0) x0 1) = 6 ∧ wp_Ca_set (gR (sI A s1 0 s0) x0 1) (gI (sI A s1 0 s0) x1 3) x2 (sI A s1 0 s0) (fun (A24 : Mem) => wp_Ma_isOver x2 x4 x6 A24 (fun (r27 : Bool) (A26 : Mem) => ((r27 = false → kd (gR A26 x0 2) = 8 ∧ wp_Lo_add (gR A26 x0 2) (gI A26 x1 3) (gI A26 x0 13) x4 x6 A26 (fun (r29 : Bool) (A28 : Mem) => ((r29 = true → K A28) ∧ (r29 = false → kd (gR A28 x0 1) = 6 ∧ wp_Ca_fail (gR A28 x0 1) 1202 A28 (fun (A31 : Mem) => K A31))))) ∧ (r27 = true → wp_Ma_skipLoop x0 (gI A26 x1 3) A26 (fun (A33 : Mem) => K A33)))))
def wp_Ma_beginLoop_c42 (K : Mem → Prop) (x0 : Nat) (x1 : Nat) (x2 : UInt64) (x4 : UInt64) (s0 : UInt64) (A : Mem) : Prop := kd x0 = 4 ∧ kd (gR A x0 1) = 6 ∧ wp_Ca_isFine (gR A x0 1) A (fun (r14 : Bool) (A13 : Mem) => ((r14 = true → kd x1 = 3 ∧ kd (gR A13 x0 2) = 8 ∧ wp_Lo_find (gR A13 x0 2) (gI A13 x1 3) A13 (fun (r18 : Int32) (A17 : Mem) => ((0 ≤ r18 → wp_Ma_beginLoop_c89 K x0 x1 x2 x4 s0 r18 (gR A17 x0 2) A17) ∧ (¬ 0 ≤ r18 → kd (gR A17 x0 2) = 8 ∧ wp_Ma_beginLoop_c89 K x0 x1 x2 x4 s0 (gI A17 (gR A17 x0 2) 0) (gR A17 x0 2) A17)))) ∧ (r14 = false → K A13)))
def wp_Ma_beginLoop (o : Nat) (p1 : Nat) (A : Mem) (K : Mem → Prop) : Prop := kd o = 4 ∧ kd (gR A o 1) = 6 ∧ wp_Ca_workOut (gR A o 1) p1 0 A (fun (r3 : UInt64) (A2 : Mem) => kd (gR A2 o 1) = 6 ∧ wp_Ca_workOut (gR A2 o 1) p1 1 A2 (fun (r6 : UInt64) (A5 : Mem) => kd p1 = 3 ∧ (((gI A5 p1 14) ≤ 2 → wp_Ma_beginLoop_c42 K o p1 r3 r6 FP.dconst1 A5) ∧ (¬ (gI A5 p1 14) ≤ 2 → kd (gR A5 o 1) = 6 ∧ wp_Ca_workOut (gR A5 o 1) p1 2 A5 (fun (r10 : UInt64) (A9 : Mem) => wp_Ma_beginLoop_c42 K o p1 r3 r6 r10 A9)))))
set_option maxRecDepth 100000 in
set_option maxHeartbeats 4000000 in
theorem k_Ma_beginLoop_c89 {X : CXT} {E : EVT} {K : Mem → Prop} (hX : Gd X E "BasicMachine$Machine" prog_8_method_16_code) (hR : Rm X 17 437) (hN : xnL X = 9) (hQ : QV X E K) (x0 : Nat) (x1 : Nat) (x2 : UInt64) (x4 : UInt64) (x6 : UInt64) (s0 : Int32) (s1 : Nat) (A : Mem) (h : wp_Ma_beginLoop_c89 K x0 x1 x2 x4 x6 s0 s1 A) : G X E A 89 [(0, cr E x0), (1, cr E x1), (2, .double (x2)), (4, .double (x4)), (6, .double (x6))] [.int (s0), cr E s1] := by
  unfold wp_Ma_beginLoop_c89 at h
  obtain ⟨f21, h⟩ := h
  refine g_putI (pc := 89) hX fl_Ma_95 rfl rfl rfl f21 d_Ma_beginLoop_89 ?_
  refine g_aload_n (pc := 92) hX d_Ma_beginLoop_92 rfl 0 rfl ?_
  obtain ⟨f22, h⟩ := h
  refine g_getR (pc := 93) hX fl_Ma_21 rfl f22 d_Ma_beginLoop_93 ?_
  refine g_aload_n (pc := 96) hX d_Ma_beginLoop_96 rfl 1 rfl ?_
  obtain ⟨f23, h⟩ := h
  refine g_getI (pc := 97) hX fl_Ma_176 rfl f23 d_Ma_beginLoop_97 ?_
  refine g_dload_n (pc := 100) hX d_Ma_beginLoop_100 rfl 2 rfl ?_
  obtain ⟨f25, h⟩ := h
  refine g_callV_V (pc := 101) hX hR f25 cf6 rfl lk_Ma_227 mf_Ca_set (c_Ca_set _ _ _ _ _ h) rfl rfl rfl ⟨by decide, by decide⟩ (cat_sum _ (Nat.le_of_ble_eq_true rfl)) d_Ma_beginLoop_101 (fun A24 h => ?_)
  refine g_dload_n (pc := 104) hX d_Ma_beginLoop_104 rfl 2 rfl ?_
  refine g_dload (pc := 105) hX d_Ma_beginLoop_105 3 rfl ?_
  refine g_dload (pc := 107) hX d_Ma_beginLoop_107 4 rfl ?_
  refine g_callS_Z (pc := 109) hX hR lk_Ma_241 mf_Ma_isOver (c_Ma_isOver _ _ _ _ _ h) rfl rfl rfl ⟨by decide, by decide⟩ (cat_sum _ (Nat.le_of_ble_eq_true rfl)) d_Ma_beginLoop_109 (fun r27 A26 h => ?_)
  refine g_ifB_eq (pc := 112) (tgt := 126) hX d_Ma_beginLoop_112 (by decide) (fun q => ?_) (fun q => ?_)
  · have h := h.1 q
    refine g_aload_n (pc := 126) hX d_Ma_beginLoop_126 rfl 0 rfl ?_
    refine g_getR (pc := 127) hX fl_Ma_28 rfl f22 d_Ma_beginLoop_127 ?_
    refine g_aload_n (pc := 130) hX d_Ma_beginLoop_130 rfl 1 rfl ?_
    refine g_getI (pc := 131) hX fl_Ma_176 rfl f23 d_Ma_beginLoop_131 ?_
    refine g_aload_n (pc := 134) hX d_Ma_beginLoop_134 rfl 0 rfl ?_
    refine g_getI (pc := 135) hX fl_Ma_65 rfl f22 d_Ma_beginLoop_135 ?_
    refine g_dload (pc := 138) hX d_Ma_beginLoop_138 3 rfl ?_
    refine g_dload (pc := 140) hX d_Ma_beginLoop_140 4 rfl ?_
    obtain ⟨f30, h⟩ := h
    refine g_callV_Z (pc := 142) hX hR f30 cf8 rfl lk_Ma_248 mf_Lo_add (c_Lo_add _ _ _ _ _ _ _ h) rfl rfl rfl ⟨by decide, by decide⟩ (cat_sum _ (Nat.le_of_ble_eq_true rfl)) d_Ma_beginLoop_142 (fun r29 A28 h => ?_)
    refine g_ifB_ne (pc := 145) (tgt := 158) hX d_Ma_beginLoop_145 (by decide) (fun q => ?_) (fun q => ?_)
    · have h := h.1 q
      exact g_vret hX hQ h d_Ma_beginLoop_158
    · have h := h.2 q
      refine g_aload_n (pc := 148) hX d_Ma_beginLoop_148 rfl 0 rfl ?_
      refine g_getR (pc := 149) hX fl_Ma_21 rfl f22 d_Ma_beginLoop_149 ?_
      refine g_getsE (pc := 152) (i := 2) hX (gSF hX).2.2.1 (by decide) rfl (by decide) ls_Ma_76 d_Ma_beginLoop_152 ?_
      obtain ⟨f32, h⟩ := h
      refine g_callV_V (pc := 155) hX hR f32 cf6 rfl lk_Ma_82 mf_Ca_fail (c_Ca_fail _ _ _ _ h) rfl rfl rfl ⟨by decide, by decide⟩ (cat_sum _ (Nat.le_of_ble_eq_true rfl)) d_Ma_beginLoop_155 (fun A31 h => ?_)
      exact g_vret hX hQ h d_Ma_beginLoop_158
  · have h := h.2 q
    refine g_aload_n (pc := 115) hX d_Ma_beginLoop_115 rfl 0 rfl ?_
    refine g_aload_n (pc := 116) hX d_Ma_beginLoop_116 rfl 1 rfl ?_
    refine g_getI (pc := 117) hX fl_Ma_176 rfl f23 d_Ma_beginLoop_117 ?_
    refine g_callV_V (pc := 120) hX hR f22 cf4 rfl lk_Ma_245 mf_Ma_skipLoop (c_Ma_skipLoop _ _ _ _ h) rfl rfl rfl ⟨by decide, by decide⟩ (cat_sum _ (Nat.le_of_ble_eq_true rfl)) d_Ma_beginLoop_120 (fun A33 h => ?_)
    refine g_goto (pc := 123) (tgt := 158) hX d_Ma_beginLoop_123 (by decide) ?_
    exact g_vret hX hQ h d_Ma_beginLoop_158
set_option maxRecDepth 100000 in
set_option maxHeartbeats 4000000 in
theorem k_Ma_beginLoop_c42 {X : CXT} {E : EVT} {K : Mem → Prop} (hX : Gd X E "BasicMachine$Machine" prog_8_method_16_code) (hR : Rm X 17 437) (hN : xnL X = 9) (hQ : QV X E K) (x0 : Nat) (x1 : Nat) (x2 : UInt64) (x4 : UInt64) (s0 : UInt64) (A : Mem) (h : wp_Ma_beginLoop_c42 K x0 x1 x2 x4 s0 A) : G X E A 42 [(0, cr E x0), (1, cr E x1), (2, .double (x2)), (4, .double (x4))] [.double (s0)] := by
  unfold wp_Ma_beginLoop_c42 at h
  refine g_dstore (pc := 42) (lv0 := [(0, cr E x0), (1, cr E x1), (2, .double (x2)), (4, .double (x4))]) hX d_Ma_beginLoop_42 (by rw [hN]; decide) (g_st2 (ks := [0, 1, 2, 3]) rfl rfl) ?_
  refine g_aload_n (pc := 44) hX d_Ma_beginLoop_44 rfl 1 rfl ?_
  obtain ⟨f12, h⟩ := h
  refine g_getR (pc := 45) hX fl_Ma_21 rfl f12 d_Ma_beginLoop_45 ?_
  obtain ⟨f15, h⟩ := h
  refine g_callV_Z (pc := 48) hX hR f15 cf6 rfl lk_Ma_72 mf_Ca_isFine (c_Ca_isFine _ _ _ h) rfl rfl rfl ⟨by decide, by decide⟩ (cat_sum _ (Nat.le_of_ble_eq_true rfl)) d_Ma_beginLoop_48 (fun r14 A13 h => ?_)
  refine g_ifB_ne (pc := 51) (tgt := 55) hX d_Ma_beginLoop_51 (by decide) (fun q => ?_) (fun q => ?_)
  · have h := h.1 q
    refine g_aload_n (pc := 55) hX d_Ma_beginLoop_55 rfl 1 rfl ?_
    refine g_getR (pc := 56) hX fl_Ma_28 rfl f12 d_Ma_beginLoop_56 ?_
    refine g_aload_n (pc := 59) hX d_Ma_beginLoop_59 rfl 2 rfl ?_
    obtain ⟨f16, h⟩ := h
    refine g_getI (pc := 60) hX fl_Ma_176 rfl f16 d_Ma_beginLoop_60 ?_
    obtain ⟨f19, h⟩ := h
    refine g_callV_I (pc := 63) hX hR f19 cf8 rfl lk_Ma_240 mf_Lo_find (c_Lo_find _ _ _ _ h) rfl rfl rfl ⟨by decide, by decide⟩ (cat_sum _ (Nat.le_of_ble_eq_true rfl)) d_Ma_beginLoop_63 (fun r18 A17 h => ?_)
    refine g_istore (pc := 66) (lv0 := [(6, .double (s0)), (0, cr E x0), (1, cr E x1), (2, .double (x2)), (4, .double (x4))]) hX d_Ma_beginLoop_66 (by rw [hN]; decide) (g_st1 (ks := [0, 1, 2, 3, 4]) rfl rfl) ?_
    refine g_aload_n (pc := 68) hX d_Ma_beginLoop_68 rfl 2 rfl ?_
    refine g_getR (pc := 69) hX fl_Ma_28 rfl f12 d_Ma_beginLoop_69 ?_
    refine g_iload (pc := 72) hX d_Ma_beginLoop_72 0 rfl ?_
    refine g_if_ge (pc := 74) (tgt := 87) hX d_Ma_beginLoop_74 (by decide) (fun q => ?_) (fun q => ?_)
    · have h := h.1 q
      refine g_iload (pc := 87) hX d_Ma_beginLoop_87 0 rfl ?_
      refine g_sub [2, 3, 4, 5, 1] rfl ?_
      exact k_Ma_beginLoop_c89 hX hR hN hQ _ _ _ _ _ _ _ _ h
    · have h := h.2 q
      refine g_aload_n (pc := 77) hX d_Ma_beginLoop_77 rfl 2 rfl ?_
      refine g_getR (pc := 78) hX fl_Ma_28 rfl f12 d_Ma_beginLoop_78 ?_
      obtain ⟨f20, h⟩ := h
      refine g_getI (pc := 81) hX fl_Ma_95 rfl f20 d_Ma_beginLoop_81 ?_
      refine g_goto (pc := 84) (tgt := 89) hX d_Ma_beginLoop_84 (by decide) ?_
      refine g_sub [2, 3, 4, 5, 1] rfl ?_
      exact k_Ma_beginLoop_c89 hX hR hN hQ _ _ _ _ _ _ _ _ h
  · have h := h.2 q
    exact g_vret hX hQ h d_Ma_beginLoop_54
set_option maxRecDepth 100000 in
set_option maxHeartbeats 4000000 in
theorem c_Ma_beginLoop (o : Nat) (p1 : Nat) (A : Mem) (K : Mem → Prop) (h : wp_Ma_beginLoop o p1 A K) : CtV y_Ma_beginLoop prog_8_method_16_code 9 17 437 (fun E => [cr E o, cr E p1]) A K := by
  refine ctV_of "BasicMachine$Machine" (by decide) rfl (fun E => [(0, cr E o), (1, cr E p1)]) (fun E => by simp [lg_sl, cr_cat, ca_i, ca_l, ca_d]) (fun E => by simp [lv_args, cr_cat, ca_i, ca_l, ca_d]) (fun X E hX hR hN hQ => ?_)
  unfold wp_Ma_beginLoop at h
  refine g_aload_n (pc := 0) hX d_Ma_beginLoop_0 rfl 0 rfl ?_
  obtain ⟨f1, h⟩ := h
  refine g_getR (pc := 1) hX fl_Ma_21 rfl f1 d_Ma_beginLoop_1 ?_
  refine g_aload_n (pc := 4) hX d_Ma_beginLoop_4 rfl 1 rfl ?_
  refine g_iconst (pc := 5) (v := 0) hX d_Ma_beginLoop_5 (by decide) ?_
  obtain ⟨f4, h⟩ := h
  refine g_callV_D (pc := 6) hX hR f4 cf6 rfl lk_Ma_149 mf_Ca_workOut (c_Ca_workOut _ _ _ _ _ h) rfl rfl rfl ⟨by decide, by decide⟩ (cat_sum _ (Nat.le_of_ble_eq_true rfl)) d_Ma_beginLoop_6 (fun r3 A2 h => ?_)
  refine g_dstore_n (pc := 9) (lv0 := [(1, cr E p1), (0, cr E o)]) hX d_Ma_beginLoop_9 rfl (by rw [hN]; decide) (g_st2b (ks := [1, 0]) rfl (cr_cat _ _) rfl rfl rfl) ?_
  refine g_aload_n (pc := 10) hX d_Ma_beginLoop_10 rfl 2 rfl ?_
  refine g_getR (pc := 11) hX fl_Ma_21 rfl f1 d_Ma_beginLoop_11 ?_
  refine g_aload_n (pc := 14) hX d_Ma_beginLoop_14 rfl 1 rfl ?_
  refine g_iconst (pc := 15) (v := 1) hX d_Ma_beginLoop_15 (by decide) ?_
  obtain ⟨f7, h⟩ := h
  refine g_callV_D (pc := 16) hX hR f7 cf6 rfl lk_Ma_149 mf_Ca_workOut (c_Ca_workOut _ _ _ _ _ h) rfl rfl rfl ⟨by decide, by decide⟩ (cat_sum _ (Nat.le_of_ble_eq_true rfl)) d_Ma_beginLoop_16 (fun r6 A5 h => ?_)
  refine g_dstore (pc := 19) (lv0 := [(2, .double (r3)), (1, cr E p1), (0, cr E o)]) hX d_Ma_beginLoop_19 (by rw [hN]; decide) (g_st2 (ks := [0, 1, 2]) rfl rfl) ?_
  refine g_aload_n (pc := 21) hX d_Ma_beginLoop_21 rfl 2 rfl ?_
  obtain ⟨f8, h⟩ := h
  refine g_getI (pc := 22) hX fl_Ma_237 rfl f8 d_Ma_beginLoop_22 ?_
  refine g_iconst (pc := 25) (v := 2) hX d_Ma_beginLoop_25 (by decide) ?_
  refine g_icmp_le (pc := 26) (tgt := 41) hX d_Ma_beginLoop_26 (by decide) (fun q => ?_) (fun q => ?_)
  · have h := h.1 q
    refine g_dconst1 (pc := 41) hX d_Ma_beginLoop_41 ?_
    refine g_sub [3, 2, 1, 0] rfl ?_
    exact k_Ma_beginLoop_c42 hX hR hN hQ _ _ _ _ _ _ h
  · have h := h.2 q
    refine g_aload_n (pc := 29) hX d_Ma_beginLoop_29 rfl 3 rfl ?_
    refine g_getR (pc := 30) hX fl_Ma_21 rfl f1 d_Ma_beginLoop_30 ?_
    refine g_aload_n (pc := 33) hX d_Ma_beginLoop_33 rfl 2 rfl ?_
    refine g_iconst (pc := 34) (v := 2) hX d_Ma_beginLoop_34 (by decide) ?_
    obtain ⟨f11, h⟩ := h
    refine g_callV_D (pc := 35) hX hR f11 cf6 rfl lk_Ma_149 mf_Ca_workOut (c_Ca_workOut _ _ _ _ _ h) rfl rfl rfl ⟨by decide, by decide⟩ (cat_sum _ (Nat.le_of_ble_eq_true rfl)) d_Ma_beginLoop_35 (fun r10 A9 h => ?_)
    refine g_goto (pc := 38) (tgt := 42) hX d_Ma_beginLoop_38 (by decide) ?_
    refine g_sub [3, 2, 1, 0] rfl ?_
    exact k_Ma_beginLoop_c42 hX hR hN hQ _ _ _ _ _ _ h
def wp_Pa_part (S : Nat → Mem → (Bool → Mem → Prop) → Prop) (o : Nat) (A : Mem) (K : Bool → Mem → Prop) : Prop := kd o = 2 ∧ wp_Pa_next o A (fun (r2 : Int32) (A1 : Mem) => wp_BM_isDigit r2 A1 (fun (r5 : Bool) (A4 : Mem) => ((r5 = false → ((¬ r2 = 40 → wp_BM_isMatrix r2 A4 (fun (r7 : Bool) (A6 : Mem) => ((r7 = false → wp_Pa_beginsName o A6 (fun (r9 : Bool) (A8 : Mem) => ((r9 = false → wp_BM_isVariable r2 A8 (fun (r11 : Bool) (A10 : Mem) => ((r11 = true → wp_Pa_operation o 1 (r2 - 65) (sI A10 o 1 ((gI A10 o 1) + 1)) (fun (r13 : Bool) (A12 : Mem) => K r13 A12)) ∧ (r11 = false → K false A10)))) ∧ (r9 = true → wp_Pa_call S o r2 A8 (fun (r15 : Bool) (A14 : Mem) => K r15 A14))))) ∧ (r7 = true → wp_Pa_matrixElement S o (r2 - 80) A6 (fun (r17 : Bool) (A16 : Mem) => K r17 A16))))) ∧ (r2 = 40 → wp_Pa_bracketed S o A4 (fun (r19 : Bool) (A18 : Mem) => K r19 A18)))) ∧ (r5 = true → wp_Pa_numeral o A4 (fun (r21 : Bool) (A20 : Mem) => ((r21 = false → K false A20) ∧ (r21 = true → wp_Pa_operation o 0 (gI A20 o 5) A20 (fun (r23 : Bool) (A22 : Mem) => ((r23 = false → K false A22) ∧ (r23 = true → K true A22))))))))))
set_option maxRecDepth 100000 in
set_option maxHeartbeats 4000000 in
theorem c_Pa_part {fr lo : Nat} {S : Nat → Mem → (Bool → Mem → Prop) → Prop} (hS : ∀ (o : Nat) (A : Mem) (K : Bool → Mem → Prop), S o A K → CtZ y_Pa_sum prog_10_method_30_code 5 fr lo (fun E => [cr E o]) A K) (o : Nat) (A : Mem) (K : Bool → Mem → Prop) (h : wp_Pa_part S o A K) : CtZ y_Pa_part prog_10_method_33_code 2 (fr + 6) (lo + 128) (fun E => [cr E o]) A K := by
  refine ctZ_of "BasicMachine$Parser" (by decide) rfl (fun E => [(0, cr E o)]) (fun E => by simp [lg_sl, cr_cat, ca_i, ca_l, ca_d]) (fun E => by simp [lv_args, cr_cat, ca_i, ca_l, ca_d]) (fun X E hX hR hN hQ => ?_)
  unfold wp_Pa_part at h
  refine g_aload_n (pc := 0) hX d_Pa_part_0 rfl 0 rfl ?_
  obtain ⟨f3, h⟩ := h
  refine g_callV_I (pc := 1) hX hR f3 cf2 rfl lk_Pa_157 mf_Pa_next (c_Pa_next _ _ _ h) rfl rfl rfl ⟨by omega, by omega⟩ (cat_sum _ (Nat.le_of_ble_eq_true rfl)) d_Pa_part_1 (fun r2 A1 h => ?_)
  refine g_istore_n (pc := 4) (lv0 := [(0, cr E o)]) hX d_Pa_part_4 rfl (by rw [hN]; decide) (g_st1b (ks := [0]) rfl (cr_cat _ _) rfl rfl) ?_
  refine g_iload_n (pc := 5) hX d_Pa_part_5 rfl 0 rfl ?_
  refine g_callSN_Z (pc := 6) hX hR lk_Pa_160 mf_BM_isDigit (c_BM_isDigit _ _ _ h) rfl rfl rfl ⟨by omega, by omega⟩ (cat_sum _ (Nat.le_of_ble_eq_true rfl)) d_Pa_part_6 (fun r5 A4 h => ?_)
  refine g_ifB_eq (pc := 9) (tgt := 37) hX d_Pa_part_9 (by decide) (fun q => ?_) (fun q => ?_)
  · have h := h.1 q
    refine g_iload_n (pc := 37) hX d_Pa_part_37 rfl 0 rfl ?_
    refine g_bipush (pc := 38) (v := 40) hX d_Pa_part_38 (by decide) ?_
    refine g_icmp_ne (pc := 40) (tgt := 48) hX d_Pa_part_40 (by decide) (fun q => ?_) (fun q => ?_)
    · have h := h.1 q
      refine g_iload_n (pc := 48) hX d_Pa_part_48 rfl 0 rfl ?_
      refine g_callSN_Z (pc := 49) hX hR lk_Pa_180 mf_BM_isMatrix (c_BM_isMatrix _ _ _ h) rfl rfl rfl ⟨by omega, by omega⟩ (cat_sum _ (Nat.le_of_ble_eq_true rfl)) d_Pa_part_49 (fun r7 A6 h => ?_)
      refine g_ifB_eq (pc := 52) (tgt := 64) hX d_Pa_part_52 (by decide) (fun q => ?_) (fun q => ?_)
      · have h := h.1 q
        refine g_aload_n (pc := 64) hX d_Pa_part_64 rfl 1 rfl ?_
        refine g_callV_Z (pc := 65) hX hR f3 cf2 rfl lk_Pa_275 mf_Pa_beginsName (c_Pa_beginsName _ _ _ h) rfl rfl rfl ⟨by omega, by omega⟩ (cat_sum _ (Nat.le_of_ble_eq_true rfl)) d_Pa_part_65 (fun r9 A8 h => ?_)
        refine g_ifB_eq (pc := 68) (tgt := 77) hX d_Pa_part_68 (by decide) (fun q => ?_) (fun q => ?_)
        · have h := h.1 q
          refine g_iload_n (pc := 77) hX d_Pa_part_77 rfl 0 rfl ?_
          refine g_callSN_Z (pc := 78) hX hR lk_Pa_174 mf_BM_isVariable (c_BM_isVariable _ _ _ h) rfl rfl rfl ⟨by omega, by omega⟩ (cat_sum _ (Nat.le_of_ble_eq_true rfl)) d_Pa_part_78 (fun r11 A10 h => ?_)
          refine g_ifB_ne (pc := 81) (tgt := 86) hX d_Pa_part_81 (by decide) (fun q => ?_) (fun q => ?_)
          · have h := h.1 q
            refine g_aload_n (pc := 86) hX d_Pa_part_86 rfl 1 rfl ?_
            refine g_dup (pc := 87) hX d_Pa_part_87 (cr_cat _ _) ?_
            refine g_getI (pc := 88) hX fl_Pa_26 rfl f3 d_Pa_part_88 ?_
            refine g_iconst (pc := 91) (v := 1) hX d_Pa_part_91 (by decide) ?_
            refine g_iadd (pc := 92) hX d_Pa_part_92 ?_
            refine g_putI (pc := 93) hX fl_Pa_26 rfl rfl rfl f3 d_Pa_part_93 ?_
            refine g_aload_n (pc := 96) hX d_Pa_part_96 rfl 1 rfl ?_
            refine g_iconst (pc := 97) (v := 1) hX d_Pa_part_97 (by decide) ?_
            refine g_iload_n (pc := 98) hX d_Pa_part_98 rfl 0 rfl ?_
            refine g_bipush (pc := 99) (v := 65) hX d_Pa_part_99 (by decide) ?_
            refine g_isub (pc := 101) hX d_Pa_part_101 ?_
            refine g_callV_Z (pc := 102) hX hR f3 cf2 rfl lk_Pa_259 mf_Pa_operation (c_Pa_operation _ _ _ _ _ h) rfl rfl rfl ⟨by omega, by omega⟩ (cat_sum _ (Nat.le_of_ble_eq_true rfl)) d_Pa_part_102 (fun r13 A12 h => ?_)
            exact g_zret hX hQ r13 rfl h d_Pa_part_105
          · have h := h.2 q
            refine g_iconst (pc := 84) (v := 0) hX d_Pa_part_84 (by decide) ?_
            exact g_zret hX hQ false rfl h d_Pa_part_85
        · have h := h.2 q
          refine g_aload_n (pc := 71) hX d_Pa_part_71 rfl 1 rfl ?_
          refine g_iload_n (pc := 72) hX d_Pa_part_72 rfl 0 rfl ?_
          refine g_callV_Z (pc := 73) hX hR f3 cf2 rfl lk_Pa_278 mf_Pa_call (c_Pa_call hS _ _ _ _ h) rfl rfl rfl ⟨by omega, by omega⟩ (cat_sum _ (Nat.le_of_ble_eq_true rfl)) d_Pa_part_73 (fun r15 A14 h => ?_)
          exact g_zret hX hQ r15 rfl h d_Pa_part_76
      · have h := h.2 q
        refine g_aload_n (pc := 55) hX d_Pa_part_55 rfl 1 rfl ?_
        refine g_iload_n (pc := 56) hX d_Pa_part_56 rfl 0 rfl ?_
        refine g_bipush (pc := 57) (v := 80) hX d_Pa_part_57 (by decide) ?_
        refine g_isub (pc := 59) hX d_Pa_part_59 ?_
        refine g_callV_Z (pc := 60) hX hR f3 cf2 rfl lk_Pa_272 mf_Pa_matrixElement (c_Pa_matrixElement hS _ _ _ _ h) rfl rfl rfl ⟨by omega, by omega⟩ (cat_sum _ (Nat.le_of_ble_eq_true rfl)) d_Pa_part_60 (fun r17 A16 h => ?_)
        exact g_zret hX hQ r17 rfl h d_Pa_part_63
    · have h := h.2 q
      refine g_aload_n (pc := 43) hX d_Pa_part_43 rfl 1 rfl ?_
      refine g_callV_Z (pc := 44) hX hR f3 cf2 rfl lk_Pa_269 mf_Pa_bracketed (c_Pa_bracketed hS _ _ _ h) rfl rfl rfl ⟨by omega, by omega⟩ (cat_sum _ (Nat.le_of_ble_eq_true rfl)) d_Pa_part_44 (fun r19 A18 h => ?_)
      exact g_zret hX hQ r19 rfl h d_Pa_part_47
  · have h := h.2 q
    refine g_aload_n (pc := 12) hX d_Pa_part_12 rfl 1 rfl ?_
    refine g_callV_Z (pc := 13) hX hR f3 cf2 rfl lk_Pa_171 mf_Pa_numeral (c_Pa_numeral _ _ _ h) rfl rfl rfl ⟨by omega, by omega⟩ (cat_sum _ (Nat.le_of_ble_eq_true rfl)) d_Pa_part_13 (fun r21 A20 h => ?_)
    refine g_ifB_eq (pc := 16) (tgt := 35) hX d_Pa_part_16 (by decide) (fun q => ?_) (fun q => ?_)
    · have h := h.1 q
      refine g_iconst (pc := 35) (v := 0) hX d_Pa_part_35 (by decide) ?_
      exact g_zret hX hQ false rfl h d_Pa_part_36
    · have h := h.2 q
      refine g_aload_n (pc := 19) hX d_Pa_part_19 rfl 1 rfl ?_
      refine g_iconst (pc := 20) (v := 0) hX d_Pa_part_20 (by decide) ?_
      refine g_aload_n (pc := 21) hX d_Pa_part_21 rfl 1 rfl ?_
      refine g_getI (pc := 22) hX fl_Pa_40 rfl f3 d_Pa_part_22 ?_
      refine g_callV_Z (pc := 25) hX hR f3 cf2 rfl lk_Pa_259 mf_Pa_operation (c_Pa_operation _ _ _ _ _ h) rfl rfl rfl ⟨by omega, by omega⟩ (cat_sum _ (Nat.le_of_ble_eq_true rfl)) d_Pa_part_25 (fun r23 A22 h => ?_)
      refine g_ifB_eq (pc := 28) (tgt := 35) hX d_Pa_part_28 (by decide) (fun q => ?_) (fun q => ?_)
      · have h := h.1 q
        refine g_iconst (pc := 35) (v := 0) hX d_Pa_part_35 (by decide) ?_
        exact g_zret hX hQ false rfl h d_Pa_part_36
      · have h := h.2 q
        refine g_iconst (pc := 31) (v := 1) hX d_Pa_part_31 (by decide) ?_
        refine g_goto (pc := 32) (tgt := 36) hX d_Pa_part_32 (by decide) ?_
        exact g_zret hX hQ true rfl h d_Pa_part_36
def wp_Ma_perform (o : Nat) (p1 : Nat) (A : Mem) (K : Mem → Prop) : Prop := kd p1 = 3 ∧ (1000 ≤ (gR A p1 2) ∧ (gR A p1 2) < 1017) ∧ vp_in (nI ((gR A p1 2) - 1000)) 17 ∧ (((tb1300.getD (Int32.toNatClampNeg (nI ((gR A p1 2) - 1000))) 0) = 1 → kd o = 4 ∧ wp_Ma_targetPlace o p1 A (fun (r5 : Int32) (A4 : Mem) => wp_Ma_let o p1 r5 A4 (fun (A7 : Mem) => K A7))) ∧ ((tb1300.getD (Int32.toNatClampNeg (nI ((gR A p1 2) - 1000))) 0) = 2 → kd o = 4 ∧ kd (gR A o 1) = 6 ∧ wp_Ca_workOut (gR A o 1) p1 0 A (fun (r10 : UInt64) (A9 : Mem) => wp_Ma_print o r10 A9 (fun (A12 : Mem) => K A12))) ∧ ((tb1300.getD (Int32.toNatClampNeg (nI ((gR A p1 2) - 1000))) 0) = 3 → kd o = 4 ∧ wp_Ma_goIf o p1 A (fun (A13 : Mem) => K A13)) ∧ ((tb1300.getD (Int32.toNatClampNeg (nI ((gR A p1 2) - 1000))) 0) = 4 → wp_Li_numberAt p1 0 A (fun (r16 : Int32) (A15 : Mem) => kd o = 4 ∧ wp_Ma_goTo o r16 A15 (fun (A17 : Mem) => K A17))) ∧ ((tb1300.getD (Int32.toNatClampNeg (nI ((gR A p1 2) - 1000))) 0) = 5 → kd o = 4 ∧ wp_Ma_goToChosen o p1 A (fun (A19 : Mem) => K A19)) ∧ ((tb1300.getD (Int32.toNatClampNeg (nI ((gR A p1 2) - 1000))) 0) = 6 → wp_Li_numberAt p1 0 A (fun (r22 : Int32) (A21 : Mem) => kd o = 4 ∧ wp_Ma_goSub o r22 A21 (fun (A23 : Mem) => K A23))) ∧ ((tb1300.getD (Int32.toNatClampNeg (nI ((gR A p1 2) - 1000))) 0) = 7 → kd o = 4 ∧ wp_Ma_beginLoop o p1 A (fun (A25 : Mem) => K A25)) ∧ ((tb1300.getD (Int32.toNatClampNeg (nI ((gR A p1 2) - 1000))) 0) = 8 → kd o = 4 ∧ wp_Ma_endLoop o (gI A p1 3) A (fun (A27 : Mem) => K A27)) ∧ ((tb1300.getD (Int32.toNatClampNeg (nI ((gR A p1 2) - 1000))) 0) = 9 → kd o = 4 ∧ wp_Ma_targetPlace o p1 A (fun (r30 : Int32) (A29 : Mem) => wp_Ma_read o p1 r30 A29 (fun (A32 : Mem) => K A32))) ∧ ((tb1300.getD (Int32.toNatClampNeg (nI ((gR A p1 2) - 1000))) 0) = 10 → K A) ∧ ((tb1300.getD (Int32.toNatClampNeg (nI ((gR A p1 2) - 1000))) 0) = 11 → kd o = 4 ∧ kd (gR A o 1) = 6 ∧ wp_Ca_matrixAt (gR A o 1) (gI A p1 3) A (fun (r35 : Nat) (A34 : Mem) => wp_Li_numberAt p1 0 A34 (fun (r38 : Int32) (A37 : Mem) => wp_Li_numberAt p1 1 A37 (fun (r40 : Int32) (A39 : Mem) => kd r35 = 7 ∧ wp_Mx_shape r35 r38 r40 A39 (fun (A41 : Mem) => K A41))))) ∧ ((tb1300.getD (Int32.toNatClampNeg (nI ((gR A p1 2) - 1000))) 0) = 12 → kd o = 4 ∧ kd (gR A o 1) = 6 ∧ wp_Ca_define (gR A o 1) (gI A p1 5) p1 A (fun (A44 : Mem) => K A44)) ∧ ((tb1300.getD (Int32.toNatClampNeg (nI ((gR A p1 2) - 1000))) 0) = 13 → kd o = 4 ∧ kd (gR A o 1) = 6 ∧ wp_Ca_mat (gR A o 1) p1 A (fun (A47 : Mem) => K A47)) ∧ ((tb1300.getD (Int32.toNatClampNeg (nI ((gR A p1 2) - 1000))) 0) = 14 → K A) ∧ ((tb1300.getD (Int32.toNatClampNeg (nI ((gR A p1 2) - 1000))) 0) = 15 → kd o = 4 ∧ wp_Ma_goBack o A (fun (A49 : Mem) => K A49)) ∧ ((tb1300.getD (Int32.toNatClampNeg (nI ((gR A p1 2) - 1000))) 0) = 16 → kd o = 4 ∧ K (sI A o 7 0)) ∧ ((tb1300.getD (Int32.toNatClampNeg (nI ((gR A p1 2) - 1000))) 0) = 17 → kd o = 4 ∧ kd (gR A o 0) = 5 ∧ K (sI A o 14 (gI A (gR A o 0) 0))) ∧ (¬ (tb1300.getD (Int32.toNatClampNeg (nI ((gR A p1 2) - 1000))) 0) = 1 → ¬ (tb1300.getD (Int32.toNatClampNeg (nI ((gR A p1 2) - 1000))) 0) = 2 → ¬ (tb1300.getD (Int32.toNatClampNeg (nI ((gR A p1 2) - 1000))) 0) = 3 → ¬ (tb1300.getD (Int32.toNatClampNeg (nI ((gR A p1 2) - 1000))) 0) = 4 → ¬ (tb1300.getD (Int32.toNatClampNeg (nI ((gR A p1 2) - 1000))) 0) = 5 → ¬ (tb1300.getD (Int32.toNatClampNeg (nI ((gR A p1 2) - 1000))) 0) = 6 → ¬ (tb1300.getD (Int32.toNatClampNeg (nI ((gR A p1 2) - 1000))) 0) = 7 → ¬ (tb1300.getD (Int32.toNatClampNeg (nI ((gR A p1 2) - 1000))) 0) = 8 → ¬ (tb1300.getD (Int32.toNatClampNeg (nI ((gR A p1 2) - 1000))) 0) = 9 → ¬ (tb1300.getD (Int32.toNatClampNeg (nI ((gR A p1 2) - 1000))) 0) = 10 → ¬ (tb1300.getD (Int32.toNatClampNeg (nI ((gR A p1 2) - 1000))) 0) = 11 → ¬ (tb1300.getD (Int32.toNatClampNeg (nI ((gR A p1 2) - 1000))) 0) = 12 → ¬ (tb1300.getD (Int32.toNatClampNeg (nI ((gR A p1 2) - 1000))) 0) = 13 → ¬ (tb1300.getD (Int32.toNatClampNeg (nI ((gR A p1 2) - 1000))) 0) = 14 → ¬ (tb1300.getD (Int32.toNatClampNeg (nI ((gR A p1 2) - 1000))) 0) = 15 → ¬ (tb1300.getD (Int32.toNatClampNeg (nI ((gR A p1 2) - 1000))) 0) = 16 → ¬ (tb1300.getD (Int32.toNatClampNeg (nI ((gR A p1 2) - 1000))) 0) = 17 → K A))
set_option maxRecDepth 100000 in
set_option maxHeartbeats 4000000 in
theorem c_Ma_perform (o : Nat) (p1 : Nat) (A : Mem) (K : Mem → Prop) (h : wp_Ma_perform o p1 A K) : CtV y_Ma_perform prog_8_method_5_code 2 18 465 (fun E => [cr E o, cr E p1]) A K := by
  refine ctV_of "BasicMachine$Machine" (by decide) rfl (fun E => [(0, cr E o), (1, cr E p1)]) (fun E => by simp [lg_sl, cr_cat, ca_i, ca_l, ca_d]) (fun E => by simp [lv_args, cr_cat, ca_i, ca_l, ca_d]) (fun X E hX hR hN hQ => ?_)
  unfold wp_Ma_perform at h
  refine g_getsT (pc := 0) hX (gSF hX).2.2.2.1 (by decide) ls_Ma_132 d_Ma_perform_0 ?_
  refine g_aload_n (pc := 3) hX d_Ma_perform_3 rfl 1 rfl ?_
  obtain ⟨f1, h⟩ := h
  refine g_getR (pc := 4) hX fl_Ma_114 rfl f1 d_Ma_perform_4 ?_
  obtain ⟨f2, h⟩ := h
  refine g_ordinal (pc := 7) (C := "BasicMachine$Statement") (d := "LBasicMachine$Statement;") (nm := en1000) (b := 1000) hX hR (by decide) ⟨f2.1, by have h9 := f2; show _ - 1000 < 17; omega⟩ (fun _ _ _ h9 => h9.1) lk_Ma_137 so_Statement so_Statementb (by decide) (cat_sum _ (Nat.le_of_ble_eq_true rfl)) d_Ma_perform_7 ?_
  obtain ⟨f3, h⟩ := h
  refine g_tabld (pc := 10) hX (gSF hX).2.2.2.1 (by decide) f3 d_Ma_perform_10 ?_
  by_cases q0 : (tb1300.getD (Int32.toNatClampNeg (nI ((gR A p1 2) - 1000))) 0) = 1
  · have h := h.1 q0
    refine g_tabin (pc := 11) (tgt := 92) (off := 81) hX (v := 1) q0 d_Ma_perform_11 (by decide) (by decide) (by decide +kernel) (by decide) ?_
    refine g_aload_n (pc := 92) hX d_Ma_perform_92 rfl 0 rfl ?_
    refine g_aload_n (pc := 93) hX d_Ma_perform_93 rfl 1 rfl ?_
    refine g_aload_n (pc := 94) hX d_Ma_perform_94 rfl 0 rfl ?_
    refine g_aload_n (pc := 95) hX d_Ma_perform_95 rfl 1 rfl ?_
    obtain ⟨f6, h⟩ := h
    refine g_callV_I (pc := 96) hX hR f6 cf4 rfl lk_Ma_141 mf_Ma_targetPlace (c_Ma_targetPlace _ _ _ _ h) rfl rfl rfl ⟨by decide, by decide⟩ (cat_sum _ (Nat.le_of_ble_eq_true rfl)) d_Ma_perform_96 (fun r5 A4 h => ?_)
    refine g_callV_V (pc := 99) hX hR f6 cf4 rfl lk_Ma_145 mf_Ma_let (c_Ma_let _ _ _ _ _ h) rfl rfl rfl ⟨by decide, by decide⟩ (cat_sum _ (Nat.le_of_ble_eq_true rfl)) d_Ma_perform_99 (fun A7 h => ?_)
    refine g_goto (pc := 102) (tgt := 275) hX d_Ma_perform_102 (by decide) ?_
    exact g_vret hX hQ h d_Ma_perform_275
  by_cases q1 : (tb1300.getD (Int32.toNatClampNeg (nI ((gR A p1 2) - 1000))) 0) = 2
  · have h := h.2.1 q1
    refine g_tabin (pc := 11) (tgt := 105) (off := 94) hX (v := 2) q1 d_Ma_perform_11 (by decide) (by decide) (by decide +kernel) (by decide) ?_
    refine g_aload_n (pc := 105) hX d_Ma_perform_105 rfl 0 rfl ?_
    refine g_aload_n (pc := 106) hX d_Ma_perform_106 rfl 0 rfl ?_
    obtain ⟨f8, h⟩ := h
    refine g_getR (pc := 107) hX fl_Ma_21 rfl f8 d_Ma_perform_107 ?_
    refine g_aload_n (pc := 110) hX d_Ma_perform_110 rfl 1 rfl ?_
    refine g_iconst (pc := 111) (v := 0) hX d_Ma_perform_111 (by decide) ?_
    obtain ⟨f11, h⟩ := h
    refine g_callV_D (pc := 112) hX hR f11 cf6 rfl lk_Ma_149 mf_Ca_workOut (c_Ca_workOut _ _ _ _ _ h) rfl rfl rfl ⟨by decide, by decide⟩ (cat_sum _ (Nat.le_of_ble_eq_true rfl)) d_Ma_perform_112 (fun r10 A9 h => ?_)
    refine g_callV_V (pc := 115) hX hR f8 cf4 rfl lk_Ma_153 mf_Ma_print (c_Ma_print _ _ _ _ h) rfl rfl rfl ⟨by decide, by decide⟩ (cat_sum _ (Nat.le_of_ble_eq_true rfl)) d_Ma_perform_115 (fun A12 h => ?_)
    refine g_goto (pc := 118) (tgt := 275) hX d_Ma_perform_118 (by decide) ?_
    exact g_vret hX hQ h d_Ma_perform_275
  by_cases q2 : (tb1300.getD (Int32.toNatClampNeg (nI ((gR A p1 2) - 1000))) 0) = 3
  · have h := h.2.2.1 q2
    refine g_tabin (pc := 11) (tgt := 121) (off := 110) hX (v := 3) q2 d_Ma_perform_11 (by decide) (by decide) (by decide +kernel) (by decide) ?_
    refine g_aload_n (pc := 121) hX d_Ma_perform_121 rfl 0 rfl ?_
    refine g_aload_n (pc := 122) hX d_Ma_perform_122 rfl 1 rfl ?_
    obtain ⟨f14, h⟩ := h
    refine g_callV_V (pc := 123) hX hR f14 cf4 rfl lk_Ma_157 mf_Ma_goIf (c_Ma_goIf _ _ _ _ h) rfl rfl rfl ⟨by decide, by decide⟩ (cat_sum _ (Nat.le_of_ble_eq_true rfl)) d_Ma_perform_123 (fun A13 h => ?_)
    refine g_goto (pc := 126) (tgt := 275) hX d_Ma_perform_126 (by decide) ?_
    exact g_vret hX hQ h d_Ma_perform_275
  by_cases q3 : (tb1300.getD (Int32.toNatClampNeg (nI ((gR A p1 2) - 1000))) 0) = 4
  · have h := h.2.2.2.1 q3
    refine g_tabin (pc := 11) (tgt := 129) (off := 118) hX (v := 4) q3 d_Ma_perform_11 (by decide) (by decide) (by decide +kernel) (by decide) ?_
    refine g_aload_n (pc := 129) hX d_Ma_perform_129 rfl 0 rfl ?_
    refine g_aload_n (pc := 130) hX d_Ma_perform_130 rfl 1 rfl ?_
    refine g_iconst (pc := 131) (v := 0) hX d_Ma_perform_131 (by decide) ?_
    refine g_callV_I (pc := 132) hX hR f1 cf3 rfl lk_Ma_126 mf_Li_numberAt (c_Li_numberAt _ _ _ _ h) rfl rfl rfl ⟨by decide, by decide⟩ (cat_sum _ (Nat.le_of_ble_eq_true rfl)) d_Ma_perform_132 (fun r16 A15 h => ?_)
    obtain ⟨f18, h⟩ := h
    refine g_callV_V (pc := 135) hX hR f18 cf4 rfl lk_Ma_160 mf_Ma_goTo (c_Ma_goTo _ _ _ _ h) rfl rfl rfl ⟨by decide, by decide⟩ (cat_sum _ (Nat.le_of_ble_eq_true rfl)) d_Ma_perform_135 (fun A17 h => ?_)
    refine g_goto (pc := 138) (tgt := 275) hX d_Ma_perform_138 (by decide) ?_
    exact g_vret hX hQ h d_Ma_perform_275
  by_cases q4 : (tb1300.getD (Int32.toNatClampNeg (nI ((gR A p1 2) - 1000))) 0) = 5
  · have h := h.2.2.2.2.1 q4
    refine g_tabin (pc := 11) (tgt := 141) (off := 130) hX (v := 5) q4 d_Ma_perform_11 (by decide) (by decide) (by decide +kernel) (by decide) ?_
    refine g_aload_n (pc := 141) hX d_Ma_perform_141 rfl 0 rfl ?_
    refine g_aload_n (pc := 142) hX d_Ma_perform_142 rfl 1 rfl ?_
    obtain ⟨f20, h⟩ := h
    refine g_callV_V (pc := 143) hX hR f20 cf4 rfl lk_Ma_164 mf_Ma_goToChosen (c_Ma_goToChosen _ _ _ _ h) rfl rfl rfl ⟨by decide, by decide⟩ (cat_sum _ (Nat.le_of_ble_eq_true rfl)) d_Ma_perform_143 (fun A19 h => ?_)
    refine g_goto (pc := 146) (tgt := 275) hX d_Ma_perform_146 (by decide) ?_
    exact g_vret hX hQ h d_Ma_perform_275
  by_cases q5 : (tb1300.getD (Int32.toNatClampNeg (nI ((gR A p1 2) - 1000))) 0) = 6
  · have h := h.2.2.2.2.2.1 q5
    refine g_tabin (pc := 11) (tgt := 149) (off := 138) hX (v := 6) q5 d_Ma_perform_11 (by decide) (by decide) (by decide +kernel) (by decide) ?_
    refine g_aload_n (pc := 149) hX d_Ma_perform_149 rfl 0 rfl ?_
    refine g_aload_n (pc := 150) hX d_Ma_perform_150 rfl 1 rfl ?_
    refine g_iconst (pc := 151) (v := 0) hX d_Ma_perform_151 (by decide) ?_
    refine g_callV_I (pc := 152) hX hR f1 cf3 rfl lk_Ma_126 mf_Li_numberAt (c_Li_numberAt _ _ _ _ h) rfl rfl rfl ⟨by decide, by decide⟩ (cat_sum _ (Nat.le_of_ble_eq_true rfl)) d_Ma_perform_152 (fun r22 A21 h => ?_)
    obtain ⟨f24, h⟩ := h
    refine g_callV_V (pc := 155) hX hR f24 cf4 rfl lk_Ma_167 mf_Ma_goSub (c_Ma_goSub _ _ _ _ h) rfl rfl rfl ⟨by decide, by decide⟩ (cat_sum _ (Nat.le_of_ble_eq_true rfl)) d_Ma_perform_155 (fun A23 h => ?_)
    refine g_goto (pc := 158) (tgt := 275) hX d_Ma_perform_158 (by decide) ?_
    exact g_vret hX hQ h d_Ma_perform_275
  by_cases q6 : (tb1300.getD (Int32.toNatClampNeg (nI ((gR A p1 2) - 1000))) 0) = 7
  · have h := h.2.2.2.2.2.2.1 q6
    refine g_tabin (pc := 11) (tgt := 168) (off := 157) hX (v := 7) q6 d_Ma_perform_11 (by decide) (by decide) (by decide +kernel) (by decide) ?_
    refine g_aload_n (pc := 168) hX d_Ma_perform_168 rfl 0 rfl ?_
    refine g_aload_n (pc := 169) hX d_Ma_perform_169 rfl 1 rfl ?_
    obtain ⟨f26, h⟩ := h
    refine g_callV_V (pc := 170) hX hR f26 cf4 rfl lk_Ma_173 mf_Ma_beginLoop (c_Ma_beginLoop _ _ _ _ h) rfl rfl rfl ⟨by decide, by decide⟩ (cat_sum _ (Nat.le_of_ble_eq_true rfl)) d_Ma_perform_170 (fun A25 h => ?_)
    refine g_goto (pc := 173) (tgt := 275) hX d_Ma_perform_173 (by decide) ?_
    exact g_vret hX hQ h d_Ma_perform_275
  by_cases q7 : (tb1300.getD (Int32.toNatClampNeg (nI ((gR A p1 2) - 1000))) 0) = 8
  · have h := h.2.2.2.2.2.2.2.1 q7
    refine g_tabin (pc := 11) (tgt := 176) (off := 165) hX (v := 8) q7 d_Ma_perform_11 (by decide) (by decide) (by decide +kernel) (by decide) ?_
    refine g_aload_n (pc := 176) hX d_Ma_perform_176 rfl 0 rfl ?_
    refine g_aload_n (pc := 177) hX d_Ma_perform_177 rfl 1 rfl ?_
    refine g_getI (pc := 178) hX fl_Ma_176 rfl f1 d_Ma_perform_178 ?_
    obtain ⟨f28, h⟩ := h
    refine g_callV_V (pc := 181) hX hR f28 cf4 rfl lk_Ma_179 mf_Ma_endLoop (c_Ma_endLoop _ _ _ _ h) rfl rfl rfl ⟨by decide, by decide⟩ (cat_sum _ (Nat.le_of_ble_eq_true rfl)) d_Ma_perform_181 (fun A27 h => ?_)
    refine g_goto (pc := 184) (tgt := 275) hX d_Ma_perform_184 (by decide) ?_
    exact g_vret hX hQ h d_Ma_perform_275
  by_cases q8 : (tb1300.getD (Int32.toNatClampNeg (nI ((gR A p1 2) - 1000))) 0) = 9
  · have h := h.2.2.2.2.2.2.2.2.1 q8
    refine g_tabin (pc := 11) (tgt := 187) (off := 176) hX (v := 9) q8 d_Ma_perform_11 (by decide) (by decide) (by decide +kernel) (by decide) ?_
    refine g_aload_n (pc := 187) hX d_Ma_perform_187 rfl 0 rfl ?_
    refine g_aload_n (pc := 188) hX d_Ma_perform_188 rfl 1 rfl ?_
    refine g_aload_n (pc := 189) hX d_Ma_perform_189 rfl 0 rfl ?_
    refine g_aload_n (pc := 190) hX d_Ma_perform_190 rfl 1 rfl ?_
    obtain ⟨f31, h⟩ := h
    refine g_callV_I (pc := 191) hX hR f31 cf4 rfl lk_Ma_141 mf_Ma_targetPlace (c_Ma_targetPlace _ _ _ _ h) rfl rfl rfl ⟨by decide, by decide⟩ (cat_sum _ (Nat.le_of_ble_eq_true rfl)) d_Ma_perform_191 (fun r30 A29 h => ?_)
    refine g_callV_V (pc := 194) hX hR f31 cf4 rfl lk_Ma_182 mf_Ma_read (c_Ma_read _ _ _ _ _ h) rfl rfl rfl ⟨by decide, by decide⟩ (cat_sum _ (Nat.le_of_ble_eq_true rfl)) d_Ma_perform_194 (fun A32 h => ?_)
    refine g_goto (pc := 197) (tgt := 275) hX d_Ma_perform_197 (by decide) ?_
    exact g_vret hX hQ h d_Ma_perform_275
  by_cases q9 : (tb1300.getD (Int32.toNatClampNeg (nI ((gR A p1 2) - 1000))) 0) = 10
  · have h := h.2.2.2.2.2.2.2.2.2.1 q9
    refine g_tabin (pc := 11) (tgt := 275) (off := 264) hX (v := 10) q9 d_Ma_perform_11 (by decide) (by decide) (by decide +kernel) (by decide) ?_
    exact g_vret hX hQ h d_Ma_perform_275
  by_cases q10 : (tb1300.getD (Int32.toNatClampNeg (nI ((gR A p1 2) - 1000))) 0) = 11
  · have h := h.2.2.2.2.2.2.2.2.2.2.1 q10
    refine g_tabin (pc := 11) (tgt := 208) (off := 197) hX (v := 11) q10 d_Ma_perform_11 (by decide) (by decide) (by decide +kernel) (by decide) ?_
    refine g_aload_n (pc := 208) hX d_Ma_perform_208 rfl 0 rfl ?_
    obtain ⟨f33, h⟩ := h
    refine g_getR (pc := 209) hX fl_Ma_21 rfl f33 d_Ma_perform_209 ?_
    refine g_aload_n (pc := 212) hX d_Ma_perform_212 rfl 1 rfl ?_
    refine g_getI (pc := 213) hX fl_Ma_176 rfl f1 d_Ma_perform_213 ?_
    obtain ⟨f36, h⟩ := h
    refine g_callV_R (pc := 216) hX hR f36 cf6 rfl lk_Ma_185 mf_Ca_matrixAt (c_Ca_matrixAt _ _ _ _ h) rfl rfl rfl ⟨by decide, by decide⟩ (cat_sum _ (Nat.le_of_ble_eq_true rfl)) d_Ma_perform_216 (fun r35 A34 h => ?_)
    refine g_aload_n (pc := 219) hX d_Ma_perform_219 rfl 1 rfl ?_
    refine g_iconst (pc := 220) (v := 0) hX d_Ma_perform_220 (by decide) ?_
    refine g_callV_I (pc := 221) hX hR f1 cf3 rfl lk_Ma_126 mf_Li_numberAt (c_Li_numberAt _ _ _ _ h) rfl rfl rfl ⟨by decide, by decide⟩ (cat_sum _ (Nat.le_of_ble_eq_true rfl)) d_Ma_perform_221 (fun r38 A37 h => ?_)
    refine g_aload_n (pc := 224) hX d_Ma_perform_224 rfl 1 rfl ?_
    refine g_iconst (pc := 225) (v := 1) hX d_Ma_perform_225 (by decide) ?_
    refine g_callV_I (pc := 226) hX hR f1 cf3 rfl lk_Ma_126 mf_Li_numberAt (c_Li_numberAt _ _ _ _ h) rfl rfl rfl ⟨by decide, by decide⟩ (cat_sum _ (Nat.le_of_ble_eq_true rfl)) d_Ma_perform_226 (fun r40 A39 h => ?_)
    obtain ⟨f42, h⟩ := h
    refine g_callV_V (pc := 229) hX hR f42 cf7 rfl lk_Ma_189 mf_Mx_shape (c_Mx_shape _ _ _ _ _ h) rfl rfl rfl ⟨by decide, by decide⟩ (cat_sum _ (Nat.le_of_ble_eq_true rfl)) d_Ma_perform_229 (fun A41 h => ?_)
    refine g_goto (pc := 232) (tgt := 275) hX d_Ma_perform_232 (by decide) ?_
    exact g_vret hX hQ h d_Ma_perform_275
  by_cases q11 : (tb1300.getD (Int32.toNatClampNeg (nI ((gR A p1 2) - 1000))) 0) = 12
  · have h := h.2.2.2.2.2.2.2.2.2.2.2.1 q11
    refine g_tabin (pc := 11) (tgt := 235) (off := 224) hX (v := 12) q11 d_Ma_perform_11 (by decide) (by decide) (by decide +kernel) (by decide) ?_
    refine g_aload_n (pc := 235) hX d_Ma_perform_235 rfl 0 rfl ?_
    obtain ⟨f43, h⟩ := h
    refine g_getR (pc := 236) hX fl_Ma_21 rfl f43 d_Ma_perform_236 ?_
    refine g_aload_n (pc := 239) hX d_Ma_perform_239 rfl 1 rfl ?_
    refine g_getI (pc := 240) hX fl_Ma_195 rfl f1 d_Ma_perform_240 ?_
    refine g_aload_n (pc := 243) hX d_Ma_perform_243 rfl 1 rfl ?_
    obtain ⟨f45, h⟩ := h
    refine g_callV_V (pc := 244) hX hR f45 cf6 rfl lk_Ma_198 mf_Ca_define (c_Ca_define _ _ _ _ _ h) rfl rfl rfl ⟨by decide, by decide⟩ (cat_sum _ (Nat.le_of_ble_eq_true rfl)) d_Ma_perform_244 (fun A44 h => ?_)
    refine g_goto (pc := 247) (tgt := 275) hX d_Ma_perform_247 (by decide) ?_
    exact g_vret hX hQ h d_Ma_perform_275
  by_cases q12 : (tb1300.getD (Int32.toNatClampNeg (nI ((gR A p1 2) - 1000))) 0) = 13
  · have h := h.2.2.2.2.2.2.2.2.2.2.2.2.1 q12
    refine g_tabin (pc := 11) (tgt := 250) (off := 239) hX (v := 13) q12 d_Ma_perform_11 (by decide) (by decide) (by decide +kernel) (by decide) ?_
    refine g_aload_n (pc := 250) hX d_Ma_perform_250 rfl 0 rfl ?_
    obtain ⟨f46, h⟩ := h
    refine g_getR (pc := 251) hX fl_Ma_21 rfl f46 d_Ma_perform_251 ?_
    refine g_aload_n (pc := 254) hX d_Ma_perform_254 rfl 1 rfl ?_
    obtain ⟨f48, h⟩ := h
    refine g_callV_V (pc := 255) hX hR f48 cf6 rfl lk_Ma_202 mf_Ca_mat (c_Ca_mat _ _ _ _ h) rfl rfl rfl ⟨by decide, by decide⟩ (cat_sum _ (Nat.le_of_ble_eq_true rfl)) d_Ma_perform_255 (fun A47 h => ?_)
    refine g_goto (pc := 258) (tgt := 275) hX d_Ma_perform_258 (by decide) ?_
    exact g_vret hX hQ h d_Ma_perform_275
  by_cases q13 : (tb1300.getD (Int32.toNatClampNeg (nI ((gR A p1 2) - 1000))) 0) = 14
  · have h := h.2.2.2.2.2.2.2.2.2.2.2.2.2.1 q13
    refine g_tabin (pc := 11) (tgt := 275) (off := 264) hX (v := 14) q13 d_Ma_perform_11 (by decide) (by decide) (by decide +kernel) (by decide) ?_
    exact g_vret hX hQ h d_Ma_perform_275
  by_cases q14 : (tb1300.getD (Int32.toNatClampNeg (nI ((gR A p1 2) - 1000))) 0) = 15
  · have h := h.2.2.2.2.2.2.2.2.2.2.2.2.2.2.1 q14
    refine g_tabin (pc := 11) (tgt := 161) (off := 150) hX (v := 15) q14 d_Ma_perform_11 (by decide) (by decide) (by decide +kernel) (by decide) ?_
    refine g_aload_n (pc := 161) hX d_Ma_perform_161 rfl 0 rfl ?_
    obtain ⟨f50, h⟩ := h
    refine g_callV_V (pc := 162) hX hR f50 cf4 rfl lk_Ma_170 mf_Ma_goBack (c_Ma_goBack _ _ _ h) rfl rfl rfl ⟨by decide, by decide⟩ (cat_sum _ (Nat.le_of_ble_eq_true rfl)) d_Ma_perform_162 (fun A49 h => ?_)
    refine g_goto (pc := 165) (tgt := 275) hX d_Ma_perform_165 (by decide) ?_
    exact g_vret hX hQ h d_Ma_perform_275
  by_cases q15 : (tb1300.getD (Int32.toNatClampNeg (nI ((gR A p1 2) - 1000))) 0) = 16
  · have h := h.2.2.2.2.2.2.2.2.2.2.2.2.2.2.2.1 q15
    refine g_tabin (pc := 11) (tgt := 200) (off := 189) hX (v := 16) q15 d_Ma_perform_11 (by decide) (by decide) (by decide +kernel) (by decide) ?_
    refine g_aload_n (pc := 200) hX d_Ma_perform_200 rfl 0 rfl ?_
    refine g_iconst (pc := 201) (v := 0) hX d_Ma_perform_201 (by decide) ?_
    obtain ⟨f51, h⟩ := h
    refine g_putI (pc := 202) hX fl_Ma_107 rfl rfl rfl f51 d_Ma_perform_202 ?_
    refine g_goto (pc := 205) (tgt := 275) hX d_Ma_perform_205 (by decide) ?_
    exact g_vret hX hQ h d_Ma_perform_275
  by_cases q16 : (tb1300.getD (Int32.toNatClampNeg (nI ((gR A p1 2) - 1000))) 0) = 17
  · have h := h.2.2.2.2.2.2.2.2.2.2.2.2.2.2.2.2.1 q16
    refine g_tabin (pc := 11) (tgt := 261) (off := 250) hX (v := 17) q16 d_Ma_perform_11 (by decide) (by decide) (by decide +kernel) (by decide) ?_
    refine g_aload_n (pc := 261) hX d_Ma_perform_261 rfl 0 rfl ?_
    refine g_aload_n (pc := 262) hX d_Ma_perform_262 rfl 0 rfl ?_
    obtain ⟨f52, h⟩ := h
    refine g_getR (pc := 263) hX fl_Ma_12 rfl f52 d_Ma_perform_263 ?_
    obtain ⟨f53, h⟩ := h
    refine g_getI (pc := 266) hX fl_Ma_110 rfl f53 d_Ma_perform_266 ?_
    refine g_putI (pc := 269) hX fl_Ma_50 rfl rfl rfl f52 d_Ma_perform_269 ?_
    refine g_goto (pc := 272) (tgt := 275) hX d_Ma_perform_272 (by decide) ?_
    exact g_vret hX hQ h d_Ma_perform_275
  have h := h.2.2.2.2.2.2.2.2.2.2.2.2.2.2.2.2.2 q0 q1 q2 q3 q4 q5 q6 q7 q8 q9 q10 q11 q12 q13 q14 q15 q16
  refine g_tabout (pc := 11) (tgt := 275) hX (vs := [(1 : Int32), (2 : Int32), (3 : Int32), (4 : Int32), (5 : Int32), (6 : Int32), (7 : Int32), (8 : Int32), (9 : Int32), (10 : Int32), (11 : Int32), (12 : Int32), (13 : Int32), (14 : Int32), (15 : Int32), (16 : Int32), (17 : Int32)]) (List.forall_mem_cons.mpr ⟨q0, List.forall_mem_cons.mpr ⟨q1, List.forall_mem_cons.mpr ⟨q2, List.forall_mem_cons.mpr ⟨q3, List.forall_mem_cons.mpr ⟨q4, List.forall_mem_cons.mpr ⟨q5, List.forall_mem_cons.mpr ⟨q6, List.forall_mem_cons.mpr ⟨q7, List.forall_mem_cons.mpr ⟨q8, List.forall_mem_cons.mpr ⟨q9, List.forall_mem_cons.mpr ⟨q10, List.forall_mem_cons.mpr ⟨q11, List.forall_mem_cons.mpr ⟨q12, List.forall_mem_cons.mpr ⟨q13, List.forall_mem_cons.mpr ⟨q14, List.forall_mem_cons.mpr ⟨q15, List.forall_mem_cons.mpr ⟨q16, fun _ h9 => absurd h9 List.not_mem_nil⟩⟩⟩⟩⟩⟩⟩⟩⟩⟩⟩⟩⟩⟩⟩⟩⟩) d_Ma_perform_11 (by decide +kernel) (by decide) ?_
  exact g_vret hX hQ h d_Ma_perform_275
def wp_Pa_power_c7 (S : Nat → Mem → (Bool → Mem → Prop) → Prop) (K : Bool → Mem → Prop) : Nat → Nat → Int32 → Int32 → Mem → Prop
  | 0, _, _, _, _ => False
  | n + 1, x0, x1, x2, A => ((60 ≤ x2 → isB x1 ∧ K (toB x1) A) ∧ (¬ 60 ≤ x2 → ((x1 = 0 → isB x1 ∧ K (toB x1) A) ∧ (¬ x1 = 0 → kd x0 = 2 ∧ wp_Pa_skip x0 94 A (fun (r7 : Bool) (A6 : Mem) => ((r7 = false → isB x1 ∧ K (toB x1) A6) ∧ (r7 = true → wp_Pa_part S x0 A6 (fun (r11 : Bool) (A10 : Mem) => ((r11 = false → wp_Pa_power_c7 S K n x0 0 (x2 + 1) A10) ∧ (r11 = true → wp_Pa_operation x0 8 0 A10 (fun (r13 : Bool) (A12 : Mem) => ((r13 = false → wp_Pa_power_c7 S K n x0 0 (x2 + 1) A12) ∧ (r13 = true → wp_Pa_power_c7 S K n x0 1 (x2 + 1) A12)))))))))))))
def wp_Pa_power (S : Nat → Mem → (Bool → Mem → Prop) → Prop) (o : Nat) (A : Mem) (K : Bool → Mem → Prop) : Prop := kd o = 2 ∧ wp_Pa_part S o A (fun (r2 : Bool) (A1 : Mem) => (∃ n9 : Nat, wp_Pa_power_c7 S K n9 o (bI r2) 0 A1))
set_option maxRecDepth 100000 in
set_option maxHeartbeats 4000000 in
theorem k_Pa_power_c7 {fr lo : Nat} {S : Nat → Mem → (Bool → Mem → Prop) → Prop} (hS : ∀ (o : Nat) (A : Mem) (K : Bool → Mem → Prop), S o A K → CtZ y_Pa_sum prog_10_method_30_code 5 fr lo (fun E => [cr E o]) A K) {X : CXT} {E : EVT} {K : Bool → Mem → Prop} (hX : Gd X E "BasicMachine$Parser" prog_10_method_32_code) (hR : Rm X (fr + 7) (lo + 149)) (hN : xnL X = 3) (hQ : QZ X E K) : ∀ (n : Nat) (x0 : Nat) (x1 : Int32) (x2 : Int32) (A : Mem), wp_Pa_power_c7 S K n x0 x1 x2 A → G X E A 7 [(0, cr E x0), (1, .int (x1)), (2, .int (x2))] [] := by
  intro n
  induction n with
  | zero => intro x0 x1 x2 A h; exact h.elim
  | succ n ih =>
    intro x0 x1 x2 A h
    rw [wp_Pa_power_c7] at h
    refine g_iload_n (pc := 7) hX d_Pa_power_7 rfl 2 rfl ?_
    refine g_bipush (pc := 8) (v := 60) hX d_Pa_power_8 (by decide) ?_
    refine g_icmp_ge (pc := 10) (tgt := 55) hX d_Pa_power_10 (by decide) (fun q => ?_) (fun q => ?_)
    · have h := h.1 q
      refine g_iload_n (pc := 55) hX d_Pa_power_55 rfl 1 rfl ?_
      obtain ⟨f4, h⟩ := h
      exact g_zret hX hQ (toB x1) (bI_toB f4).symm h d_Pa_power_56
    · have h := h.2 q
      refine g_iload_n (pc := 13) hX d_Pa_power_13 rfl 1 rfl ?_
      refine g_if_eq (pc := 14) (tgt := 55) hX d_Pa_power_14 (by decide) (fun q => ?_) (fun q => ?_)
      · have h := h.1 q
        refine g_iload_n (pc := 55) hX d_Pa_power_55 rfl 1 rfl ?_
        obtain ⟨f5, h⟩ := h
        exact g_zret hX hQ (toB x1) (bI_toB f5).symm h d_Pa_power_56
      · have h := h.2 q
        refine g_aload_n (pc := 17) hX d_Pa_power_17 rfl 0 rfl ?_
        refine g_bipush (pc := 18) (v := 94) hX d_Pa_power_18 (by decide) ?_
        obtain ⟨f8, h⟩ := h
        refine g_callV_Z (pc := 20) hX hR f8 cf2 rfl lk_Pa_68 mf_Pa_skip (c_Pa_skip _ _ _ _ h) rfl rfl rfl ⟨by omega, by omega⟩ (cat_sum _ (Nat.le_of_ble_eq_true rfl)) d_Pa_power_20 (fun r7 A6 h => ?_)
        refine g_ifB_eq (pc := 23) (tgt := 55) hX d_Pa_power_23 (by decide) (fun q => ?_) (fun q => ?_)
        · have h := h.1 q
          refine g_iload_n (pc := 55) hX d_Pa_power_55 rfl 1 rfl ?_
          obtain ⟨f9, h⟩ := h
          exact g_zret hX hQ (toB x1) (bI_toB f9).symm h d_Pa_power_56
        · have h := h.2 q
          refine g_aload_n (pc := 26) hX d_Pa_power_26 rfl 0 rfl ?_
          refine g_callV_Z (pc := 27) hX hR f8 cf2 rfl lk_Pa_266 mf_Pa_part (c_Pa_part hS _ _ _ h) rfl rfl rfl ⟨by omega, by omega⟩ (cat_sum _ (Nat.le_of_ble_eq_true rfl)) d_Pa_power_27 (fun r11 A10 h => ?_)
          refine g_ifB_eq (pc := 30) (tgt := 47) hX d_Pa_power_30 (by decide) (fun q => ?_) (fun q => ?_)
          · have h := h.1 q
            refine g_iconst (pc := 47) (v := 0) hX d_Pa_power_47 (by decide) ?_
            refine g_istore_n (pc := 48) (lv0 := [(0, cr E x0), (2, .int (x2))]) hX d_Pa_power_48 rfl (by rw [hN]; decide) (g_st1b (ks := [0, 2]) rfl (cr_cat _ _) rfl rfl) ?_
            refine g_iinc (pc := 49) (v := (x2 + 1)) (lv0 := [(1, .int (0)), (0, cr E x0)]) hX d_Pa_power_49 2 rfl rfl (by rw [hN]; decide) (g_st1b (ks := [0, 1]) rfl rfl rfl rfl) ?_
            refine g_goto (pc := 52) (tgt := 7) hX d_Pa_power_52 (by decide) ?_
            refine g_sub [2, 1, 0] rfl ?_
            exact ih _ _ _ _ h
          · have h := h.2 q
            refine g_aload_n (pc := 33) hX d_Pa_power_33 rfl 0 rfl ?_
            refine g_bipush (pc := 34) (v := 8) hX d_Pa_power_34 (by decide) ?_
            refine g_iconst (pc := 36) (v := 0) hX d_Pa_power_36 (by decide) ?_
            refine g_callV_Z (pc := 37) hX hR f8 cf2 rfl lk_Pa_259 mf_Pa_operation (c_Pa_operation _ _ _ _ _ h) rfl rfl rfl ⟨by omega, by omega⟩ (cat_sum _ (Nat.le_of_ble_eq_true rfl)) d_Pa_power_37 (fun r13 A12 h => ?_)
            refine g_ifB_eq (pc := 40) (tgt := 47) hX d_Pa_power_40 (by decide) (fun q => ?_) (fun q => ?_)
            · have h := h.1 q
              refine g_iconst (pc := 47) (v := 0) hX d_Pa_power_47 (by decide) ?_
              refine g_istore_n (pc := 48) (lv0 := [(0, cr E x0), (2, .int (x2))]) hX d_Pa_power_48 rfl (by rw [hN]; decide) (g_st1b (ks := [0, 2]) rfl (cr_cat _ _) rfl rfl) ?_
              refine g_iinc (pc := 49) (v := (x2 + 1)) (lv0 := [(1, .int (0)), (0, cr E x0)]) hX d_Pa_power_49 2 rfl rfl (by rw [hN]; decide) (g_st1b (ks := [0, 1]) rfl rfl rfl rfl) ?_
              refine g_goto (pc := 52) (tgt := 7) hX d_Pa_power_52 (by decide) ?_
              refine g_sub [2, 1, 0] rfl ?_
              exact ih _ _ _ _ h
            · have h := h.2 q
              refine g_iconst (pc := 43) (v := 1) hX d_Pa_power_43 (by decide) ?_
              refine g_goto (pc := 44) (tgt := 48) hX d_Pa_power_44 (by decide) ?_
              refine g_istore_n (pc := 48) (lv0 := [(0, cr E x0), (2, .int (x2))]) hX d_Pa_power_48 rfl (by rw [hN]; decide) (g_st1b (ks := [0, 2]) rfl (cr_cat _ _) rfl rfl) ?_
              refine g_iinc (pc := 49) (v := (x2 + 1)) (lv0 := [(1, .int (1)), (0, cr E x0)]) hX d_Pa_power_49 2 rfl rfl (by rw [hN]; decide) (g_st1b (ks := [0, 1]) rfl rfl rfl rfl) ?_
              refine g_goto (pc := 52) (tgt := 7) hX d_Pa_power_52 (by decide) ?_
              refine g_sub [2, 1, 0] rfl ?_
              exact ih _ _ _ _ h
set_option maxRecDepth 100000 in
set_option maxHeartbeats 4000000 in
theorem c_Pa_power {fr lo : Nat} {S : Nat → Mem → (Bool → Mem → Prop) → Prop} (hS : ∀ (o : Nat) (A : Mem) (K : Bool → Mem → Prop), S o A K → CtZ y_Pa_sum prog_10_method_30_code 5 fr lo (fun E => [cr E o]) A K) (o : Nat) (A : Mem) (K : Bool → Mem → Prop) (h : wp_Pa_power S o A K) : CtZ y_Pa_power prog_10_method_32_code 3 (fr + 7) (lo + 149) (fun E => [cr E o]) A K := by
  refine ctZ_of "BasicMachine$Parser" (by decide) rfl (fun E => [(0, cr E o)]) (fun E => by simp [lg_sl, cr_cat, ca_i, ca_l, ca_d]) (fun E => by simp [lv_args, cr_cat, ca_i, ca_l, ca_d]) (fun X E hX hR hN hQ => ?_)
  unfold wp_Pa_power at h
  refine g_aload_n (pc := 0) hX d_Pa_power_0 rfl 0 rfl ?_
  obtain ⟨f3, h⟩ := h
  refine g_callV_Z (pc := 1) hX hR f3 cf2 rfl lk_Pa_266 mf_Pa_part (c_Pa_part hS _ _ _ h) rfl rfl rfl ⟨by omega, by omega⟩ (cat_sum _ (Nat.le_of_ble_eq_true rfl)) d_Pa_power_1 (fun r2 A1 h => ?_)
  refine g_istore_n (pc := 4) (lv0 := [(0, cr E o)]) hX d_Pa_power_4 rfl (by rw [hN]; decide) (g_st1b (ks := [0]) rfl (cr_cat _ _) rfl rfl) ?_
  refine g_iconst (pc := 5) (v := 0) hX d_Pa_power_5 (by decide) ?_
  refine g_istore_n (pc := 6) (lv0 := [(1, .int (bI r2)), (0, cr E o)]) hX d_Pa_power_6 rfl (by rw [hN]; decide) (g_st1b (ks := [0, 1]) rfl rfl rfl rfl) ?_
  refine g_sub [2, 1, 0] rfl ?_
  obtain ⟨n9, h⟩ := h
  exact k_Pa_power_c7 hS hX hR hN hQ n9 _ _ _ _ h
def wp_Ma_execute_c114 (K : Nat → Mem → Prop) (x0 : Nat) (A : Mem) : Prop := kd x0 = 4 ∧ kd (gR A x0 1) = 6 ∧ wp_Ca_isFine (gR A x0 1) A (fun (r23 : Bool) (A22 : Mem) => ((r23 = true → kd (gR A22 x0 1) = 6 ∧ K (gR A22 (gR A22 x0 1) 0) A22) ∧ (r23 = false → kd (gR (sI A22 x0 10 ((gI A22 x0 10) + 1)) x0 1) = 6 ∧ K (gR (sI A22 x0 10 ((gI A22 x0 10) + 1)) (gR (sI A22 x0 10 ((gI A22 x0 10) + 1)) x0 1) 0) (sI A22 x0 10 ((gI A22 x0 10) + 1)))))
def wp_Ma_execute_c16 (K : Nat → Mem → Prop) : Nat → Nat → Nat → Mem → Prop
  | 0, _, _, _ => False
  | n + 1, x0, x1, A => ((x1 = 0 → ((x1 = 0 → wp_Ma_execute_c114 K x0 A) ∧ (¬ x1 = 0 → kd x0 = 4 ∧ kd (gR A x0 1) = 6 ∧ wp_Ca_fail (gR A x0 1) 1202 A (fun (A7 : Mem) => wp_Ma_execute_c114 K x0 A7)))) ∧ (¬ x1 = 0 → kd x0 = 4 ∧ ((300 ≤ (gI A x0 8) → ((x1 = 0 → wp_Ma_execute_c114 K x0 A) ∧ (¬ x1 = 0 → kd (gR A x0 1) = 6 ∧ wp_Ca_fail (gR A x0 1) 1202 A (fun (A10 : Mem) => wp_Ma_execute_c114 K x0 A10)))) ∧ (¬ 300 ≤ (gI A x0 8) → kd x1 = 3 ∧ ∀ A13 : Mem, A13 = (sI (sI (sI A x0 8 ((gI A x0 8) + 1)) x0 9 (gI (sI A x0 8 ((gI A x0 8) + 1)) x1 0)) x0 13 (gI (sI (sI A x0 8 ((gI A x0 8) + 1)) x0 9 (gI (sI A x0 8 ((gI A x0 8) + 1)) x1 0)) x0 14)) → wp_Ma_perform x0 x1 (sI A13 x0 14 ((gI A13 x0 14) + 1)) (fun (A14 : Mem) => kd (gR A14 x0 1) = 6 ∧ wp_Ca_isFine (gR A14 x0 1) A14 (fun (r16 : Bool) (A15 : Mem) => ((r16 = false → wp_Ma_execute_c16 K n x0 0 A15) ∧ (r16 = true → kd (gR A15 x0 0) = 5 ∧ wp_Pr_lineAt (gR A15 x0 0) (gI A15 x0 14) A15 (fun (r19 : Nat) (A18 : Mem) => wp_Ma_execute_c16 K n x0 r19 A18)))))))))
def wp_Ma_execute (o : Nat) (A : Mem) (K : Nat → Mem → Prop) : Prop := kd o = 4 ∧ wp_Ma_begin o A (fun (A1 : Mem) => kd (gR A1 o 0) = 5 ∧ wp_Pr_lineAt (gR A1 o 0) (gI A1 o 14) A1 (fun (r4 : Nat) (A3 : Mem) => (∃ n9 : Nat, wp_Ma_execute_c16 K n9 o r4 A3)))
set_option maxRecDepth 100000 in
set_option maxHeartbeats 4000000 in
theorem k_Ma_execute_c114 {X : CXT} {E : EVT} {K : Nat → Mem → Prop} (hX : Gd X E "BasicMachine$Machine" prog_8_method_2_code) (hR : Rm X 19 486) (hN : xnL X = 2) (hQ : QR X E (.object "BasicMachine$Fault") K) (x0 : Nat) (A : Mem) (h : wp_Ma_execute_c114 K x0 A) : G X E A 114 [(0, cr E x0)] [] := by
  unfold wp_Ma_execute_c114 at h
  refine g_aload_n (pc := 114) hX d_Ma_execute_114 rfl 0 rfl ?_
  obtain ⟨f21, h⟩ := h
  refine g_getR (pc := 115) hX fl_Ma_21 rfl f21 d_Ma_execute_115 ?_
  obtain ⟨f24, h⟩ := h
  refine g_callV_Z (pc := 118) hX hR f24 cf6 rfl lk_Ma_72 mf_Ca_isFine (c_Ca_isFine _ _ _ h) rfl rfl rfl ⟨by decide, by decide⟩ (cat_sum _ (Nat.le_of_ble_eq_true rfl)) d_Ma_execute_118 (fun r23 A22 h => ?_)
  refine g_ifB_ne (pc := 121) (tgt := 134) hX d_Ma_execute_121 (by decide) (fun q => ?_) (fun q => ?_)
  · have h := h.1 q
    refine g_aload_n (pc := 134) hX d_Ma_execute_134 rfl 0 rfl ?_
    refine g_getR (pc := 135) hX fl_Ma_21 rfl f21 d_Ma_execute_135 ?_
    obtain ⟨f25, h⟩ := h
    refine g_getR (pc := 138) hX fl_Ma_89 rfl f25 d_Ma_execute_138 ?_
    exact g_aret hX hQ h d_Ma_execute_141
  · have h := h.2 q
    refine g_aload_n (pc := 124) hX d_Ma_execute_124 rfl 0 rfl ?_
    refine g_dup (pc := 125) hX d_Ma_execute_125 (cr_cat _ _) ?_
    refine g_getI (pc := 126) hX fl_Ma_86 rfl f21 d_Ma_execute_126 ?_
    refine g_iconst (pc := 129) (v := 1) hX d_Ma_execute_129 (by decide) ?_
    refine g_iadd (pc := 130) hX d_Ma_execute_130 ?_
    refine g_putI (pc := 131) hX fl_Ma_86 rfl rfl rfl f21 d_Ma_execute_131 ?_
    refine g_aload_n (pc := 134) hX d_Ma_execute_134 rfl 0 rfl ?_
    refine g_getR (pc := 135) hX fl_Ma_21 rfl f21 d_Ma_execute_135 ?_
    obtain ⟨f26, h⟩ := h
    refine g_getR (pc := 138) hX fl_Ma_89 rfl f26 d_Ma_execute_138 ?_
    exact g_aret hX hQ h d_Ma_execute_141
set_option maxRecDepth 100000 in
set_option maxHeartbeats 4000000 in
theorem k_Ma_execute_c16 {X : CXT} {E : EVT} {K : Nat → Mem → Prop} (hX : Gd X E "BasicMachine$Machine" prog_8_method_2_code) (hR : Rm X 19 486) (hN : xnL X = 2) (hQ : QR X E (.object "BasicMachine$Fault") K) : ∀ (n : Nat) (x0 : Nat) (x1 : Nat) (A : Mem), wp_Ma_execute_c16 K n x0 x1 A → G X E A 16 [(0, cr E x0), (1, cr E x1)] [] := by
  intro n
  induction n with
  | zero => intro x0 x1 A h; exact h.elim
  | succ n ih =>
    intro x0 x1 A h
    rw [wp_Ma_execute_c16] at h
    refine g_aload_n (pc := 16) hX d_Ma_execute_16 rfl 1 rfl ?_
    refine g_ifnull (pc := 17) (tgt := 100) hX d_Ma_execute_17 (by decide) (fun q => ?_) (fun q => ?_)
    · have h := h.1 q
      refine g_aload_n (pc := 100) hX d_Ma_execute_100 rfl 1 rfl ?_
      refine g_ifnull (pc := 101) (tgt := 114) hX d_Ma_execute_101 (by decide) (fun q => ?_) (fun q => ?_)
      · have h := h.1 q
        refine g_sub [0] rfl ?_
        exact k_Ma_execute_c114 hX hR hN hQ _ _ h
      · have h := h.2 q
        refine g_aload_n (pc := 104) hX d_Ma_execute_104 rfl 0 rfl ?_
        obtain ⟨f6, h⟩ := h
        refine g_getR (pc := 105) hX fl_Ma_21 rfl f6 d_Ma_execute_105 ?_
        refine g_getsE (pc := 108) (i := 2) hX (gSF hX).2.2.1 (by decide) rfl (by decide) ls_Ma_76 d_Ma_execute_108 ?_
        obtain ⟨f8, h⟩ := h
        refine g_callV_V (pc := 111) hX hR f8 cf6 rfl lk_Ma_82 mf_Ca_fail (c_Ca_fail _ _ _ _ h) rfl rfl rfl ⟨by decide, by decide⟩ (cat_sum _ (Nat.le_of_ble_eq_true rfl)) d_Ma_execute_111 (fun A7 h => ?_)
        refine g_sub [0] rfl ?_
        exact k_Ma_execute_c114 hX hR hN hQ _ _ h
    · have h := h.2 q
      refine g_aload_n (pc := 20) hX d_Ma_execute_20 rfl 0 rfl ?_
      obtain ⟨f9, h⟩ := h
      refine g_getI (pc := 21) hX fl_Ma_57 rfl f9 d_Ma_execute_21 ?_
      refine g_sipush (pc := 24) (v := 300) hX d_Ma_execute_24 (by decide) ?_
      refine g_icmp_ge (pc := 27) (tgt := 100) hX d_Ma_execute_27 (by decide) (fun q => ?_) (fun q => ?_)
      · have h := h.1 q
        refine g_aload_n (pc := 100) hX d_Ma_execute_100 rfl 1 rfl ?_
        refine g_ifnull (pc := 101) (tgt := 114) hX d_Ma_execute_101 (by decide) (fun q => ?_) (fun q => ?_)
        · have h := h.1 q
          refine g_sub [0] rfl ?_
          exact k_Ma_execute_c114 hX hR hN hQ _ _ h
        · have h := h.2 q
          refine g_aload_n (pc := 104) hX d_Ma_execute_104 rfl 0 rfl ?_
          refine g_getR (pc := 105) hX fl_Ma_21 rfl f9 d_Ma_execute_105 ?_
          refine g_getsE (pc := 108) (i := 2) hX (gSF hX).2.2.1 (by decide) rfl (by decide) ls_Ma_76 d_Ma_execute_108 ?_
          obtain ⟨f11, h⟩ := h
          refine g_callV_V (pc := 111) hX hR f11 cf6 rfl lk_Ma_82 mf_Ca_fail (c_Ca_fail _ _ _ _ h) rfl rfl rfl ⟨by decide, by decide⟩ (cat_sum _ (Nat.le_of_ble_eq_true rfl)) d_Ma_execute_111 (fun A10 h => ?_)
          refine g_sub [0] rfl ?_
          exact k_Ma_execute_c114 hX hR hN hQ _ _ h
      · have h := h.2 q
        refine g_aload_n (pc := 30) hX d_Ma_execute_30 rfl 0 rfl ?_
        refine g_dup (pc := 31) hX d_Ma_execute_31 (cr_cat _ _) ?_
        refine g_getI (pc := 32) hX fl_Ma_57 rfl f9 d_Ma_execute_32 ?_
        refine g_iconst (pc := 35) (v := 1) hX d_Ma_execute_35 (by decide) ?_
        refine g_iadd (pc := 36) hX d_Ma_execute_36 ?_
        refine g_putI (pc := 37) hX fl_Ma_57 rfl rfl rfl f9 d_Ma_execute_37 ?_
        refine g_aload_n (pc := 40) hX d_Ma_execute_40 rfl 0 rfl ?_
        refine g_aload_n (pc := 41) hX d_Ma_execute_41 rfl 1 rfl ?_
        obtain ⟨f12, h⟩ := h
        refine g_getI (pc := 42) hX fl_Ma_60 rfl f12 d_Ma_execute_42 ?_
        refine g_putI (pc := 45) hX fl_Ma_36 rfl rfl rfl f9 d_Ma_execute_45 ?_
        refine g_aload_n (pc := 48) hX d_Ma_execute_48 rfl 0 rfl ?_
        refine g_aload_n (pc := 49) hX d_Ma_execute_49 rfl 0 rfl ?_
        refine g_getI (pc := 50) hX fl_Ma_50 rfl f9 d_Ma_execute_50 ?_
        refine g_putI (pc := 53) hX fl_Ma_65 rfl rfl rfl f9 d_Ma_execute_53 ?_
        refine g_nm (fun A13 eA13 => ?_)
        have h := h A13 eA13
        refine g_aload_n (pc := 56) hX d_Ma_execute_56 rfl 0 rfl ?_
        refine g_dup (pc := 57) hX d_Ma_execute_57 (cr_cat _ _) ?_
        refine g_getI (pc := 58) hX fl_Ma_50 rfl f9 d_Ma_execute_58 ?_
        refine g_iconst (pc := 61) (v := 1) hX d_Ma_execute_61 (by decide) ?_
        refine g_iadd (pc := 62) hX d_Ma_execute_62 ?_
        refine g_putI (pc := 63) hX fl_Ma_50 rfl rfl rfl f9 d_Ma_execute_63 ?_
        refine g_aload_n (pc := 66) hX d_Ma_execute_66 rfl 0 rfl ?_
        refine g_aload_n (pc := 67) hX d_Ma_execute_67 rfl 1 rfl ?_
        refine g_callV_V (pc := 68) hX hR f9 cf4 rfl lk_Ma_68 mf_Ma_perform (c_Ma_perform _ _ _ _ h) rfl rfl rfl ⟨by decide, by decide⟩ (cat_sum _ (Nat.le_of_ble_eq_true rfl)) d_Ma_execute_68 (fun A14 h => ?_)
        refine g_aload_n (pc := 71) hX d_Ma_execute_71 rfl 0 rfl ?_
        refine g_getR (pc := 72) hX fl_Ma_21 rfl f9 d_Ma_execute_72 ?_
        obtain ⟨f17, h⟩ := h
        refine g_callV_Z (pc := 75) hX hR f17 cf6 rfl lk_Ma_72 mf_Ca_isFine (c_Ca_isFine _ _ _ h) rfl rfl rfl ⟨by decide, by decide⟩ (cat_sum _ (Nat.le_of_ble_eq_true rfl)) d_Ma_execute_75 (fun r16 A15 h => ?_)
        refine g_ifB_eq (pc := 78) (tgt := 95) hX d_Ma_execute_78 (by decide) (fun q => ?_) (fun q => ?_)
        · have h := h.1 q
          refine g_null (pc := 95) hX d_Ma_execute_95 ?_
          refine g_astore_n (pc := 96) (lv0 := [(0, cr E x0)]) hX d_Ma_execute_96 rfl (by rw [hN]; decide) (g_st1b (ks := [0]) rfl (cr_cat _ _) rfl rfl) ?_
          refine g_goto (pc := 97) (tgt := 16) hX d_Ma_execute_97 (by decide) ?_
          refine g_sub [1, 0] rfl ?_
          exact ih _ _ _ h
        · have h := h.2 q
          refine g_aload_n (pc := 81) hX d_Ma_execute_81 rfl 0 rfl ?_
          refine g_getR (pc := 82) hX fl_Ma_12 rfl f9 d_Ma_execute_82 ?_
          refine g_aload_n (pc := 85) hX d_Ma_execute_85 rfl 0 rfl ?_
          refine g_getI (pc := 86) hX fl_Ma_50 rfl f9 d_Ma_execute_86 ?_
          obtain ⟨f20, h⟩ := h
          refine g_callV_R (pc := 89) hX hR f20 cf5 rfl lk_Ma_53 mf_Pr_lineAt (c_Pr_lineAt _ _ _ _ h) rfl rfl rfl ⟨by decide, by decide⟩ (cat_sum _ (Nat.le_of_ble_eq_true rfl)) d_Ma_execute_89 (fun r19 A18 h => ?_)
          refine g_goto (pc := 92) (tgt := 96) hX d_Ma_execute_92 (by decide) ?_
          refine g_astore_n (pc := 96) (lv0 := [(0, cr E x0)]) hX d_Ma_execute_96 rfl (by rw [hN]; decide) (g_st1b (ks := [0]) rfl (cr_cat _ _) rfl rfl) ?_
          refine g_goto (pc := 97) (tgt := 16) hX d_Ma_execute_97 (by decide) ?_
          refine g_sub [1, 0] rfl ?_
          exact ih _ _ _ h
set_option maxRecDepth 100000 in
set_option maxHeartbeats 4000000 in
theorem c_Ma_execute (o : Nat) (A : Mem) (K : Nat → Mem → Prop) (h : wp_Ma_execute o A K) : CtR y_Ma_execute prog_8_method_2_code 2 (.object "BasicMachine$Fault") 19 486 (fun E => [cr E o]) A K := by
  refine ctR_of "BasicMachine$Machine" (by decide) rfl (Or.inl ⟨_, rfl⟩) (fun E => [(0, cr E o)]) (fun E => by simp [lg_sl, cr_cat, ca_i, ca_l, ca_d]) (fun E => by simp [lv_args, cr_cat, ca_i, ca_l, ca_d]) (fun X E hX hR hN hQ => ?_)
  unfold wp_Ma_execute at h
  refine g_aload_n (pc := 0) hX d_Ma_execute_0 rfl 0 rfl ?_
  obtain ⟨f2, h⟩ := h
  refine g_callV_V (pc := 1) hX hR f2 cf4 rfl lk_Ma_47 mf_Ma_begin (c_Ma_begin _ _ _ h) rfl rfl rfl ⟨by decide, by decide⟩ (cat_sum _ (Nat.le_of_ble_eq_true rfl)) d_Ma_execute_1 (fun A1 h => ?_)
  refine g_aload_n (pc := 4) hX d_Ma_execute_4 rfl 0 rfl ?_
  refine g_getR (pc := 5) hX fl_Ma_12 rfl f2 d_Ma_execute_5 ?_
  refine g_aload_n (pc := 8) hX d_Ma_execute_8 rfl 0 rfl ?_
  refine g_getI (pc := 9) hX fl_Ma_50 rfl f2 d_Ma_execute_9 ?_
  obtain ⟨f5, h⟩ := h
  refine g_callV_R (pc := 12) hX hR f5 cf5 rfl lk_Ma_53 mf_Pr_lineAt (c_Pr_lineAt _ _ _ _ h) rfl rfl rfl ⟨by decide, by decide⟩ (cat_sum _ (Nat.le_of_ble_eq_true rfl)) d_Ma_execute_12 (fun r4 A3 h => ?_)
  refine g_astore_n (pc := 15) (lv0 := [(0, cr E o)]) hX d_Ma_execute_15 rfl (by rw [hN]; decide) (g_st1b (ks := [0]) rfl (cr_cat _ _) rfl rfl) ?_
  refine g_sub [1, 0] rfl ?_
  obtain ⟨n9, h⟩ := h
  exact k_Ma_execute_c16 hX hR hN hQ n9 _ _ _ h
def wp_Pa_product_c51 (S : Nat → Mem → (Bool → Mem → Prop) → Prop) (J7 : Nat → Int32 → Int32 → Mem → Prop) (K : Bool → Mem → Prop) (x0 : Nat) (x2 : Int32) (s0 : Int32) (A : Mem) : Prop := kd x0 = 2 ∧ wp_Pa_power S x0 (sI A x0 1 ((gI A x0 1) + 1)) (fun (r18 : Bool) (A17 : Mem) => ((r18 = false → J7 x0 0 (x2 + 1) A17) ∧ (r18 = true → wp_Pa_operation x0 s0 0 A17 (fun (r20 : Bool) (A19 : Mem) => ((r20 = false → J7 x0 0 (x2 + 1) A19) ∧ (r20 = true → J7 x0 1 (x2 + 1) A19))))))
def wp_Pa_product_c7 (S : Nat → Mem → (Bool → Mem → Prop) → Prop) (K : Bool → Mem → Prop) : Nat → Nat → Int32 → Int32 → Mem → Prop
  | 0, _, _, _, _ => False
  | n + 1, x0, x1, x2, A => ((60 ≤ x2 → isB x1 ∧ K (toB x1) A) ∧ (¬ 60 ≤ x2 → ((x1 = 0 → isB x1 ∧ K (toB x1) A) ∧ (¬ x1 = 0 → kd x0 = 2 ∧ wp_Pa_next x0 A (fun (r7 : Int32) (A6 : Mem) => ((r7 = 42 → wp_Pa_next x0 A6 (fun (r10 : Int32) (A9 : Mem) => ((¬ r10 = 42 → wp_Pa_product_c51 S (wp_Pa_product_c7 S K n) K x0 x2 7 A9) ∧ (r10 = 42 → wp_Pa_product_c51 S (wp_Pa_product_c7 S K n) K x0 x2 6 A9)))) ∧ (¬ r7 = 42 → wp_Pa_next x0 A6 (fun (r12 : Int32) (A11 : Mem) => ((¬ r12 = 47 → isB x1 ∧ K (toB x1) A11) ∧ (r12 = 47 → wp_Pa_next x0 A11 (fun (r15 : Int32) (A14 : Mem) => ((¬ r15 = 42 → wp_Pa_product_c51 S (wp_Pa_product_c7 S K n) K x0 x2 7 A14) ∧ (r15 = 42 → wp_Pa_product_c51 S (wp_Pa_product_c7 S K n) K x0 x2 6 A14)))))))))))))
def wp_Pa_product (S : Nat → Mem → (Bool → Mem → Prop) → Prop) (o : Nat) (A : Mem) (K : Bool → Mem → Prop) : Prop := kd o = 2 ∧ wp_Pa_power S o A (fun (r2 : Bool) (A1 : Mem) => (∃ n9 : Nat, wp_Pa_product_c7 S K n9 o (bI r2) 0 A1))
set_option maxRecDepth 100000 in
set_option maxHeartbeats 4000000 in
theorem k_Pa_product_c51 {fr lo : Nat} {S : Nat → Mem → (Bool → Mem → Prop) → Prop} (hS : ∀ (o : Nat) (A : Mem) (K : Bool → Mem → Prop), S o A K → CtZ y_Pa_sum prog_10_method_30_code 5 fr lo (fun E => [cr E o]) A K) {X : CXT} {E : EVT} {K : Bool → Mem → Prop} {J7 : Nat → Int32 → Int32 → Mem → Prop} (hX : Gd X E "BasicMachine$Parser" prog_10_method_31_code) (hR : Rm X (fr + 8) (lo + 171)) (hN : xnL X = 4) (hQ : QZ X E K) (hJ7 : ∀ (x0 : Nat) (x1 : Int32) (x2 : Int32) (A : Mem), J7 x0 x1 x2 A → G X E A 7 [(0, cr E x0), (1, .int (x1)), (2, .int (x2))] []) (x0 : Nat) (x2 : Int32) (s0 : Int32) (A : Mem) (h : wp_Pa_product_c51 S J7 K x0 x2 s0 A) : G X E A 51 [(0, cr E x0), (2, .int (x2))] [.int (s0)] := by
  unfold wp_Pa_product_c51 at h
  refine g_istore_n (pc := 51) (lv0 := [(2, .int (x2)), (0, cr E x0)]) hX d_Pa_product_51 rfl (by rw [hN]; decide) (g_st1b (ks := [1, 0]) rfl rfl rfl rfl) ?_
  refine g_aload_n (pc := 52) hX d_Pa_product_52 rfl 2 rfl ?_
  refine g_dup (pc := 53) hX d_Pa_product_53 (cr_cat _ _) ?_
  obtain ⟨f16, h⟩ := h
  refine g_getI (pc := 54) hX fl_Pa_26 rfl f16 d_Pa_product_54 ?_
  refine g_iconst (pc := 57) (v := 1) hX d_Pa_product_57 (by decide) ?_
  refine g_iadd (pc := 58) hX d_Pa_product_58 ?_
  refine g_putI (pc := 59) hX fl_Pa_26 rfl rfl rfl f16 d_Pa_product_59 ?_
  refine g_aload_n (pc := 62) hX d_Pa_product_62 rfl 2 rfl ?_
  refine g_callV_Z (pc := 63) hX hR f16 cf2 rfl lk_Pa_263 mf_Pa_power (c_Pa_power hS _ _ _ h) rfl rfl rfl ⟨by omega, by omega⟩ (cat_sum _ (Nat.le_of_ble_eq_true rfl)) d_Pa_product_63 (fun r18 A17 h => ?_)
  refine g_ifB_eq (pc := 66) (tgt := 82) hX d_Pa_product_66 (by decide) (fun q => ?_) (fun q => ?_)
  · have h := h.1 q
    refine g_iconst (pc := 82) (v := 0) hX d_Pa_product_82 (by decide) ?_
    refine g_istore_n (pc := 83) (lv0 := [(0, cr E x0), (3, .int (s0)), (2, .int (x2))]) hX d_Pa_product_83 rfl (by rw [hN]; decide) (g_st1b (ks := [2, 0, 1]) rfl (cr_cat _ _) rfl rfl) ?_
    refine g_iinc (pc := 84) (v := (x2 + 1)) (lv0 := [(1, .int (0)), (0, cr E x0), (3, .int (s0))]) hX d_Pa_product_84 3 rfl rfl (by rw [hN]; decide) (g_st1b (ks := [0, 1, 2]) rfl rfl rfl rfl) ?_
    refine g_goto (pc := 87) (tgt := 7) hX d_Pa_product_87 (by decide) ?_
    refine g_sub [2, 1, 0] rfl ?_
    exact hJ7 _ _ _ _ h
  · have h := h.2 q
    refine g_aload_n (pc := 69) hX d_Pa_product_69 rfl 2 rfl ?_
    refine g_iload_n (pc := 70) hX d_Pa_product_70 rfl 0 rfl ?_
    refine g_iconst (pc := 71) (v := 0) hX d_Pa_product_71 (by decide) ?_
    refine g_callV_Z (pc := 72) hX hR f16 cf2 rfl lk_Pa_259 mf_Pa_operation (c_Pa_operation _ _ _ _ _ h) rfl rfl rfl ⟨by omega, by omega⟩ (cat_sum _ (Nat.le_of_ble_eq_true rfl)) d_Pa_product_72 (fun r20 A19 h => ?_)
    refine g_ifB_eq (pc := 75) (tgt := 82) hX d_Pa_product_75 (by decide) (fun q => ?_) (fun q => ?_)
    · have h := h.1 q
      refine g_iconst (pc := 82) (v := 0) hX d_Pa_product_82 (by decide) ?_
      refine g_istore_n (pc := 83) (lv0 := [(0, cr E x0), (3, .int (s0)), (2, .int (x2))]) hX d_Pa_product_83 rfl (by rw [hN]; decide) (g_st1b (ks := [2, 0, 1]) rfl (cr_cat _ _) rfl rfl) ?_
      refine g_iinc (pc := 84) (v := (x2 + 1)) (lv0 := [(1, .int (0)), (0, cr E x0), (3, .int (s0))]) hX d_Pa_product_84 3 rfl rfl (by rw [hN]; decide) (g_st1b (ks := [0, 1, 2]) rfl rfl rfl rfl) ?_
      refine g_goto (pc := 87) (tgt := 7) hX d_Pa_product_87 (by decide) ?_
      refine g_sub [2, 1, 0] rfl ?_
      exact hJ7 _ _ _ _ h
    · have h := h.2 q
      refine g_iconst (pc := 78) (v := 1) hX d_Pa_product_78 (by decide) ?_
      refine g_goto (pc := 79) (tgt := 83) hX d_Pa_product_79 (by decide) ?_
      refine g_istore_n (pc := 83) (lv0 := [(0, cr E x0), (3, .int (s0)), (2, .int (x2))]) hX d_Pa_product_83 rfl (by rw [hN]; decide) (g_st1b (ks := [2, 0, 1]) rfl (cr_cat _ _) rfl rfl) ?_
      refine g_iinc (pc := 84) (v := (x2 + 1)) (lv0 := [(1, .int (1)), (0, cr E x0), (3, .int (s0))]) hX d_Pa_product_84 3 rfl rfl (by rw [hN]; decide) (g_st1b (ks := [0, 1, 2]) rfl rfl rfl rfl) ?_
      refine g_goto (pc := 87) (tgt := 7) hX d_Pa_product_87 (by decide) ?_
      refine g_sub [2, 1, 0] rfl ?_
      exact hJ7 _ _ _ _ h
set_option maxRecDepth 100000 in
set_option maxHeartbeats 4000000 in
theorem k_Pa_product_c7 {fr lo : Nat} {S : Nat → Mem → (Bool → Mem → Prop) → Prop} (hS : ∀ (o : Nat) (A : Mem) (K : Bool → Mem → Prop), S o A K → CtZ y_Pa_sum prog_10_method_30_code 5 fr lo (fun E => [cr E o]) A K) {X : CXT} {E : EVT} {K : Bool → Mem → Prop} (hX : Gd X E "BasicMachine$Parser" prog_10_method_31_code) (hR : Rm X (fr + 8) (lo + 171)) (hN : xnL X = 4) (hQ : QZ X E K) : ∀ (n : Nat) (x0 : Nat) (x1 : Int32) (x2 : Int32) (A : Mem), wp_Pa_product_c7 S K n x0 x1 x2 A → G X E A 7 [(0, cr E x0), (1, .int (x1)), (2, .int (x2))] [] := by
  intro n
  induction n with
  | zero => intro x0 x1 x2 A h; exact h.elim
  | succ n ih =>
    intro x0 x1 x2 A h
    rw [wp_Pa_product_c7] at h
    refine g_iload_n (pc := 7) hX d_Pa_product_7 rfl 2 rfl ?_
    refine g_bipush (pc := 8) (v := 60) hX d_Pa_product_8 (by decide) ?_
    refine g_icmp_ge (pc := 10) (tgt := 90) hX d_Pa_product_10 (by decide) (fun q => ?_) (fun q => ?_)
    · have h := h.1 q
      refine g_iload_n (pc := 90) hX d_Pa_product_90 rfl 1 rfl ?_
      obtain ⟨f4, h⟩ := h
      exact g_zret hX hQ (toB x1) (bI_toB f4).symm h d_Pa_product_91
    · have h := h.2 q
      refine g_iload_n (pc := 13) hX d_Pa_product_13 rfl 1 rfl ?_
      refine g_if_eq (pc := 14) (tgt := 90) hX d_Pa_product_14 (by decide) (fun q => ?_) (fun q => ?_)
      · have h := h.1 q
        refine g_iload_n (pc := 90) hX d_Pa_product_90 rfl 1 rfl ?_
        obtain ⟨f5, h⟩ := h
        exact g_zret hX hQ (toB x1) (bI_toB f5).symm h d_Pa_product_91
      · have h := h.2 q
        refine g_aload_n (pc := 17) hX d_Pa_product_17 rfl 0 rfl ?_
        obtain ⟨f8, h⟩ := h
        refine g_callV_I (pc := 18) hX hR f8 cf2 rfl lk_Pa_157 mf_Pa_next (c_Pa_next _ _ _ h) rfl rfl rfl ⟨by omega, by omega⟩ (cat_sum _ (Nat.le_of_ble_eq_true rfl)) d_Pa_product_18 (fun r7 A6 h => ?_)
        refine g_bipush (pc := 21) (v := 42) hX d_Pa_product_21 (by decide) ?_
        refine g_icmp_eq (pc := 23) (tgt := 35) hX d_Pa_product_23 (by decide) (fun q => ?_) (fun q => ?_)
        · have h := h.1 q
          refine g_aload_n (pc := 35) hX d_Pa_product_35 rfl 0 rfl ?_
          refine g_callV_I (pc := 36) hX hR f8 cf2 rfl lk_Pa_157 mf_Pa_next (c_Pa_next _ _ _ h) rfl rfl rfl ⟨by omega, by omega⟩ (cat_sum _ (Nat.le_of_ble_eq_true rfl)) d_Pa_product_36 (fun r10 A9 h => ?_)
          refine g_bipush (pc := 39) (v := 42) hX d_Pa_product_39 (by decide) ?_
          refine g_icmp_ne (pc := 41) (tgt := 49) hX d_Pa_product_41 (by decide) (fun q => ?_) (fun q => ?_)
          · have h := h.1 q
            refine g_bipush (pc := 49) (v := 7) hX d_Pa_product_49 (by decide) ?_
            refine g_sub [0, 2] rfl ?_
            exact k_Pa_product_c51 hS hX hR hN hQ ih _ _ _ _ h
          · have h := h.2 q
            refine g_bipush (pc := 44) (v := 6) hX d_Pa_product_44 (by decide) ?_
            refine g_goto (pc := 46) (tgt := 51) hX d_Pa_product_46 (by decide) ?_
            refine g_sub [0, 2] rfl ?_
            exact k_Pa_product_c51 hS hX hR hN hQ ih _ _ _ _ h
        · have h := h.2 q
          refine g_aload_n (pc := 26) hX d_Pa_product_26 rfl 0 rfl ?_
          refine g_callV_I (pc := 27) hX hR f8 cf2 rfl lk_Pa_157 mf_Pa_next (c_Pa_next _ _ _ h) rfl rfl rfl ⟨by omega, by omega⟩ (cat_sum _ (Nat.le_of_ble_eq_true rfl)) d_Pa_product_27 (fun r12 A11 h => ?_)
          refine g_bipush (pc := 30) (v := 47) hX d_Pa_product_30 (by decide) ?_
          refine g_icmp_ne (pc := 32) (tgt := 90) hX d_Pa_product_32 (by decide) (fun q => ?_) (fun q => ?_)
          · have h := h.1 q
            refine g_iload_n (pc := 90) hX d_Pa_product_90 rfl 1 rfl ?_
            obtain ⟨f13, h⟩ := h
            exact g_zret hX hQ (toB x1) (bI_toB f13).symm h d_Pa_product_91
          · have h := h.2 q
            refine g_aload_n (pc := 35) hX d_Pa_product_35 rfl 0 rfl ?_
            refine g_callV_I (pc := 36) hX hR f8 cf2 rfl lk_Pa_157 mf_Pa_next (c_Pa_next _ _ _ h) rfl rfl rfl ⟨by omega, by omega⟩ (cat_sum _ (Nat.le_of_ble_eq_true rfl)) d_Pa_product_36 (fun r15 A14 h => ?_)
            refine g_bipush (pc := 39) (v := 42) hX d_Pa_product_39 (by decide) ?_
            refine g_icmp_ne (pc := 41) (tgt := 49) hX d_Pa_product_41 (by decide) (fun q => ?_) (fun q => ?_)
            · have h := h.1 q
              refine g_bipush (pc := 49) (v := 7) hX d_Pa_product_49 (by decide) ?_
              refine g_sub [0, 2] rfl ?_
              exact k_Pa_product_c51 hS hX hR hN hQ ih _ _ _ _ h
            · have h := h.2 q
              refine g_bipush (pc := 44) (v := 6) hX d_Pa_product_44 (by decide) ?_
              refine g_goto (pc := 46) (tgt := 51) hX d_Pa_product_46 (by decide) ?_
              refine g_sub [0, 2] rfl ?_
              exact k_Pa_product_c51 hS hX hR hN hQ ih _ _ _ _ h
set_option maxRecDepth 100000 in
set_option maxHeartbeats 4000000 in
theorem c_Pa_product {fr lo : Nat} {S : Nat → Mem → (Bool → Mem → Prop) → Prop} (hS : ∀ (o : Nat) (A : Mem) (K : Bool → Mem → Prop), S o A K → CtZ y_Pa_sum prog_10_method_30_code 5 fr lo (fun E => [cr E o]) A K) (o : Nat) (A : Mem) (K : Bool → Mem → Prop) (h : wp_Pa_product S o A K) : CtZ y_Pa_product prog_10_method_31_code 4 (fr + 8) (lo + 171) (fun E => [cr E o]) A K := by
  refine ctZ_of "BasicMachine$Parser" (by decide) rfl (fun E => [(0, cr E o)]) (fun E => by simp [lg_sl, cr_cat, ca_i, ca_l, ca_d]) (fun E => by simp [lv_args, cr_cat, ca_i, ca_l, ca_d]) (fun X E hX hR hN hQ => ?_)
  unfold wp_Pa_product at h
  refine g_aload_n (pc := 0) hX d_Pa_product_0 rfl 0 rfl ?_
  obtain ⟨f3, h⟩ := h
  refine g_callV_Z (pc := 1) hX hR f3 cf2 rfl lk_Pa_263 mf_Pa_power (c_Pa_power hS _ _ _ h) rfl rfl rfl ⟨by omega, by omega⟩ (cat_sum _ (Nat.le_of_ble_eq_true rfl)) d_Pa_product_1 (fun r2 A1 h => ?_)
  refine g_istore_n (pc := 4) (lv0 := [(0, cr E o)]) hX d_Pa_product_4 rfl (by rw [hN]; decide) (g_st1b (ks := [0]) rfl (cr_cat _ _) rfl rfl) ?_
  refine g_iconst (pc := 5) (v := 0) hX d_Pa_product_5 (by decide) ?_
  refine g_istore_n (pc := 6) (lv0 := [(1, .int (bI r2)), (0, cr E o)]) hX d_Pa_product_6 rfl (by rw [hN]; decide) (g_st1b (ks := [0, 1]) rfl rfl rfl rfl) ?_
  refine g_sub [2, 1, 0] rfl ?_
  obtain ⟨n9, h⟩ := h
  exact k_Pa_product_c7 hS hX hR hN hQ n9 _ _ _ _ h
def wp_Pa_sumB_c77 (S : Nat → Mem → (Bool → Mem → Prop) → Prop) (J35 : Nat → Int32 → Int32 → Mem → Prop) (K : Bool → Mem → Prop) (x0 : Nat) (x3 : Int32) (s0 : Int32) (A : Mem) : Prop := kd x0 = 2 ∧ wp_Pa_product S x0 (sI A x0 1 ((gI A x0 1) + 1)) (fun (r22 : Bool) (A21 : Mem) => ((r22 = false → J35 x0 0 (x3 + 1) A21) ∧ (r22 = true → wp_Pa_operation x0 s0 0 A21 (fun (r24 : Bool) (A23 : Mem) => ((r24 = false → J35 x0 0 (x3 + 1) A23) ∧ (r24 = true → J35 x0 1 (x3 + 1) A23))))))
def wp_Pa_sumB_c35 (S : Nat → Mem → (Bool → Mem → Prop) → Prop) (K : Bool → Mem → Prop) : Nat → Nat → Int32 → Int32 → Mem → Prop
  | 0, _, _, _, _ => False
  | n + 1, x0, x2, x3, A => ((60 ≤ x3 → isB x2 ∧ K (toB x2) A) ∧ (¬ 60 ≤ x3 → ((x2 = 0 → isB x2 ∧ K (toB x2) A) ∧ (¬ x2 = 0 → kd x0 = 2 ∧ wp_Pa_next x0 A (fun (r11 : Int32) (A10 : Mem) => ((r11 = 43 → wp_Pa_next x0 A10 (fun (r14 : Int32) (A13 : Mem) => ((¬ r14 = 43 → wp_Pa_sumB_c77 S (wp_Pa_sumB_c35 S K n) K x0 x3 5 A13) ∧ (r14 = 43 → wp_Pa_sumB_c77 S (wp_Pa_sumB_c35 S K n) K x0 x3 4 A13)))) ∧ (¬ r11 = 43 → wp_Pa_next x0 A10 (fun (r16 : Int32) (A15 : Mem) => ((¬ r16 = 45 → isB x2 ∧ K (toB x2) A15) ∧ (r16 = 45 → wp_Pa_next x0 A15 (fun (r19 : Int32) (A18 : Mem) => ((¬ r19 = 43 → wp_Pa_sumB_c77 S (wp_Pa_sumB_c35 S K n) K x0 x3 5 A18) ∧ (r19 = 43 → wp_Pa_sumB_c77 S (wp_Pa_sumB_c35 S K n) K x0 x3 4 A18)))))))))))))
def wp_Pa_sumB (S : Nat → Mem → (Bool → Mem → Prop) → Prop) (o : Nat) (A : Mem) (K : Bool → Mem → Prop) : Prop := kd o = 2 ∧ wp_Pa_skip o 45 A (fun (r2 : Bool) (A1 : Mem) => wp_Pa_product S o A1 (fun (r5 : Bool) (A4 : Mem) => ((r5 = false → (∃ n9 : Nat, wp_Pa_sumB_c35 S K n9 o 0 0 A4)) ∧ (r5 = true → ((r2 = false → (∃ n9 : Nat, wp_Pa_sumB_c35 S K n9 o 1 0 A4)) ∧ (r2 = true → wp_Pa_operation o 3 0 A4 (fun (r7 : Bool) (A6 : Mem) => ((r7 = false → (∃ n9 : Nat, wp_Pa_sumB_c35 S K n9 o 0 0 A6)) ∧ (r7 = true → (∃ n9 : Nat, wp_Pa_sumB_c35 S K n9 o 1 0 A6))))))))))
set_option maxRecDepth 100000 in
set_option maxHeartbeats 4000000 in
theorem k_Pa_sumB_c77 {fr lo : Nat} {S : Nat → Mem → (Bool → Mem → Prop) → Prop} (hS : ∀ (o : Nat) (A : Mem) (K : Bool → Mem → Prop), S o A K → CtZ y_Pa_sum prog_10_method_30_code 5 fr lo (fun E => [cr E o]) A K) {X : CXT} {E : EVT} {K : Bool → Mem → Prop} {J35 : Nat → Int32 → Int32 → Mem → Prop} (hX : Gd X E "BasicMachine$Parser" prog_10_method_30_code) (hR : Rm X (fr + 9) (lo + 194)) (hN : xnL X = 5) (hQ : QZ X E K) (hJ35 : ∀ (x0 : Nat) (x2 : Int32) (x3 : Int32) (A : Mem), J35 x0 x2 x3 A → G X E A 35 [(0, cr E x0), (2, .int (x2)), (3, .int (x3))] []) (x0 : Nat) (x3 : Int32) (s0 : Int32) (A : Mem) (h : wp_Pa_sumB_c77 S J35 K x0 x3 s0 A) : G X E A 77 [(0, cr E x0), (3, .int (x3))] [.int (s0)] := by
  unfold wp_Pa_sumB_c77 at h
  refine g_istore (pc := 77) (lv0 := [(3, .int (x3)), (0, cr E x0)]) hX d_Pa_sumB_77 (by rw [hN]; decide) (g_st1b (ks := [1, 0]) rfl rfl rfl rfl) ?_
  refine g_aload_n (pc := 79) hX d_Pa_sumB_79 rfl 2 rfl ?_
  refine g_dup (pc := 80) hX d_Pa_sumB_80 (cr_cat _ _) ?_
  obtain ⟨f20, h⟩ := h
  refine g_getI (pc := 81) hX fl_Pa_26 rfl f20 d_Pa_sumB_81 ?_
  refine g_iconst (pc := 84) (v := 1) hX d_Pa_sumB_84 (by decide) ?_
  refine g_iadd (pc := 85) hX d_Pa_sumB_85 ?_
  refine g_putI (pc := 86) hX fl_Pa_26 rfl rfl rfl f20 d_Pa_sumB_86 ?_
  refine g_aload_n (pc := 89) hX d_Pa_sumB_89 rfl 2 rfl ?_
  refine g_callV_Z (pc := 90) hX hR f20 cf2 rfl lk_Pa_256 mf_Pa_product (c_Pa_product hS _ _ _ h) rfl rfl rfl ⟨by omega, by omega⟩ (cat_sum _ (Nat.le_of_ble_eq_true rfl)) d_Pa_sumB_90 (fun r22 A21 h => ?_)
  refine g_ifB_eq (pc := 93) (tgt := 110) hX d_Pa_sumB_93 (by decide) (fun q => ?_) (fun q => ?_)
  · have h := h.1 q
    refine g_iconst (pc := 110) (v := 0) hX d_Pa_sumB_110 (by decide) ?_
    refine g_istore_n (pc := 111) (lv0 := [(4, .int (s0)), (3, .int (x3)), (0, cr E x0)]) hX d_Pa_sumB_111 rfl (by rw [hN]; decide) (g_st1 (ks := [0, 1, 2]) rfl rfl) ?_
    refine g_iinc (pc := 112) (v := (x3 + 1)) (lv0 := [(2, .int (0)), (4, .int (s0)), (0, cr E x0)]) hX d_Pa_sumB_112 2 rfl rfl (by rw [hN]; decide) (g_st1b (ks := [0, 1, 3]) rfl rfl rfl rfl) ?_
    refine g_goto (pc := 115) (tgt := 35) hX d_Pa_sumB_115 (by decide) ?_
    refine g_sub [3, 1, 0] rfl ?_
    exact hJ35 _ _ _ _ h
  · have h := h.2 q
    refine g_aload_n (pc := 96) hX d_Pa_sumB_96 rfl 2 rfl ?_
    refine g_iload (pc := 97) hX d_Pa_sumB_97 0 rfl ?_
    refine g_iconst (pc := 99) (v := 0) hX d_Pa_sumB_99 (by decide) ?_
    refine g_callV_Z (pc := 100) hX hR f20 cf2 rfl lk_Pa_259 mf_Pa_operation (c_Pa_operation _ _ _ _ _ h) rfl rfl rfl ⟨by omega, by omega⟩ (cat_sum _ (Nat.le_of_ble_eq_true rfl)) d_Pa_sumB_100 (fun r24 A23 h => ?_)
    refine g_ifB_eq (pc := 103) (tgt := 110) hX d_Pa_sumB_103 (by decide) (fun q => ?_) (fun q => ?_)
    · have h := h.1 q
      refine g_iconst (pc := 110) (v := 0) hX d_Pa_sumB_110 (by decide) ?_
      refine g_istore_n (pc := 111) (lv0 := [(4, .int (s0)), (3, .int (x3)), (0, cr E x0)]) hX d_Pa_sumB_111 rfl (by rw [hN]; decide) (g_st1 (ks := [0, 1, 2]) rfl rfl) ?_
      refine g_iinc (pc := 112) (v := (x3 + 1)) (lv0 := [(2, .int (0)), (4, .int (s0)), (0, cr E x0)]) hX d_Pa_sumB_112 2 rfl rfl (by rw [hN]; decide) (g_st1b (ks := [0, 1, 3]) rfl rfl rfl rfl) ?_
      refine g_goto (pc := 115) (tgt := 35) hX d_Pa_sumB_115 (by decide) ?_
      refine g_sub [3, 1, 0] rfl ?_
      exact hJ35 _ _ _ _ h
    · have h := h.2 q
      refine g_iconst (pc := 106) (v := 1) hX d_Pa_sumB_106 (by decide) ?_
      refine g_goto (pc := 107) (tgt := 111) hX d_Pa_sumB_107 (by decide) ?_
      refine g_istore_n (pc := 111) (lv0 := [(4, .int (s0)), (3, .int (x3)), (0, cr E x0)]) hX d_Pa_sumB_111 rfl (by rw [hN]; decide) (g_st1 (ks := [0, 1, 2]) rfl rfl) ?_
      refine g_iinc (pc := 112) (v := (x3 + 1)) (lv0 := [(2, .int (1)), (4, .int (s0)), (0, cr E x0)]) hX d_Pa_sumB_112 2 rfl rfl (by rw [hN]; decide) (g_st1b (ks := [0, 1, 3]) rfl rfl rfl rfl) ?_
      refine g_goto (pc := 115) (tgt := 35) hX d_Pa_sumB_115 (by decide) ?_
      refine g_sub [3, 1, 0] rfl ?_
      exact hJ35 _ _ _ _ h
set_option maxRecDepth 100000 in
set_option maxHeartbeats 4000000 in
theorem k_Pa_sumB_c35 {fr lo : Nat} {S : Nat → Mem → (Bool → Mem → Prop) → Prop} (hS : ∀ (o : Nat) (A : Mem) (K : Bool → Mem → Prop), S o A K → CtZ y_Pa_sum prog_10_method_30_code 5 fr lo (fun E => [cr E o]) A K) {X : CXT} {E : EVT} {K : Bool → Mem → Prop} (hX : Gd X E "BasicMachine$Parser" prog_10_method_30_code) (hR : Rm X (fr + 9) (lo + 194)) (hN : xnL X = 5) (hQ : QZ X E K) : ∀ (n : Nat) (x0 : Nat) (x2 : Int32) (x3 : Int32) (A : Mem), wp_Pa_sumB_c35 S K n x0 x2 x3 A → G X E A 35 [(0, cr E x0), (2, .int (x2)), (3, .int (x3))] [] := by
  intro n
  induction n with
  | zero => intro x0 x2 x3 A h; exact h.elim
  | succ n ih =>
    intro x0 x2 x3 A h
    rw [wp_Pa_sumB_c35] at h
    refine g_iload_n (pc := 35) hX d_Pa_sumB_35 rfl 2 rfl ?_
    refine g_bipush (pc := 36) (v := 60) hX d_Pa_sumB_36 (by decide) ?_
    refine g_icmp_ge (pc := 38) (tgt := 118) hX d_Pa_sumB_38 (by decide) (fun q => ?_) (fun q => ?_)
    · have h := h.1 q
      refine g_iload_n (pc := 118) hX d_Pa_sumB_118 rfl 1 rfl ?_
      obtain ⟨f8, h⟩ := h
      exact g_zret hX hQ (toB x2) (bI_toB f8).symm h d_Pa_sumB_119
    · have h := h.2 q
      refine g_iload_n (pc := 41) hX d_Pa_sumB_41 rfl 1 rfl ?_
      refine g_if_eq (pc := 42) (tgt := 118) hX d_Pa_sumB_42 (by decide) (fun q => ?_) (fun q => ?_)
      · have h := h.1 q
        refine g_iload_n (pc := 118) hX d_Pa_sumB_118 rfl 1 rfl ?_
        obtain ⟨f9, h⟩ := h
        exact g_zret hX hQ (toB x2) (bI_toB f9).symm h d_Pa_sumB_119
      · have h := h.2 q
        refine g_aload_n (pc := 45) hX d_Pa_sumB_45 rfl 0 rfl ?_
        obtain ⟨f12, h⟩ := h
        refine g_callV_I (pc := 46) hX hR f12 cf2 rfl lk_Pa_157 mf_Pa_next (c_Pa_next _ _ _ h) rfl rfl rfl ⟨by omega, by omega⟩ (cat_sum _ (Nat.le_of_ble_eq_true rfl)) d_Pa_sumB_46 (fun r11 A10 h => ?_)
        refine g_bipush (pc := 49) (v := 43) hX d_Pa_sumB_49 (by decide) ?_
        refine g_icmp_eq (pc := 51) (tgt := 63) hX d_Pa_sumB_51 (by decide) (fun q => ?_) (fun q => ?_)
        · have h := h.1 q
          refine g_aload_n (pc := 63) hX d_Pa_sumB_63 rfl 0 rfl ?_
          refine g_callV_I (pc := 64) hX hR f12 cf2 rfl lk_Pa_157 mf_Pa_next (c_Pa_next _ _ _ h) rfl rfl rfl ⟨by omega, by omega⟩ (cat_sum _ (Nat.le_of_ble_eq_true rfl)) d_Pa_sumB_64 (fun r14 A13 h => ?_)
          refine g_bipush (pc := 67) (v := 43) hX d_Pa_sumB_67 (by decide) ?_
          refine g_icmp_ne (pc := 69) (tgt := 76) hX d_Pa_sumB_69 (by decide) (fun q => ?_) (fun q => ?_)
          · have h := h.1 q
            refine g_iconst (pc := 76) (v := 5) hX d_Pa_sumB_76 (by decide) ?_
            refine g_sub [0, 2] rfl ?_
            exact k_Pa_sumB_c77 hS hX hR hN hQ ih _ _ _ _ h
          · have h := h.2 q
            refine g_iconst (pc := 72) (v := 4) hX d_Pa_sumB_72 (by decide) ?_
            refine g_goto (pc := 73) (tgt := 77) hX d_Pa_sumB_73 (by decide) ?_
            refine g_sub [0, 2] rfl ?_
            exact k_Pa_sumB_c77 hS hX hR hN hQ ih _ _ _ _ h
        · have h := h.2 q
          refine g_aload_n (pc := 54) hX d_Pa_sumB_54 rfl 0 rfl ?_
          refine g_callV_I (pc := 55) hX hR f12 cf2 rfl lk_Pa_157 mf_Pa_next (c_Pa_next _ _ _ h) rfl rfl rfl ⟨by omega, by omega⟩ (cat_sum _ (Nat.le_of_ble_eq_true rfl)) d_Pa_sumB_55 (fun r16 A15 h => ?_)
          refine g_bipush (pc := 58) (v := 45) hX d_Pa_sumB_58 (by decide) ?_
          refine g_icmp_ne (pc := 60) (tgt := 118) hX d_Pa_sumB_60 (by decide) (fun q => ?_) (fun q => ?_)
          · have h := h.1 q
            refine g_iload_n (pc := 118) hX d_Pa_sumB_118 rfl 1 rfl ?_
            obtain ⟨f17, h⟩ := h
            exact g_zret hX hQ (toB x2) (bI_toB f17).symm h d_Pa_sumB_119
          · have h := h.2 q
            refine g_aload_n (pc := 63) hX d_Pa_sumB_63 rfl 0 rfl ?_
            refine g_callV_I (pc := 64) hX hR f12 cf2 rfl lk_Pa_157 mf_Pa_next (c_Pa_next _ _ _ h) rfl rfl rfl ⟨by omega, by omega⟩ (cat_sum _ (Nat.le_of_ble_eq_true rfl)) d_Pa_sumB_64 (fun r19 A18 h => ?_)
            refine g_bipush (pc := 67) (v := 43) hX d_Pa_sumB_67 (by decide) ?_
            refine g_icmp_ne (pc := 69) (tgt := 76) hX d_Pa_sumB_69 (by decide) (fun q => ?_) (fun q => ?_)
            · have h := h.1 q
              refine g_iconst (pc := 76) (v := 5) hX d_Pa_sumB_76 (by decide) ?_
              refine g_sub [0, 2] rfl ?_
              exact k_Pa_sumB_c77 hS hX hR hN hQ ih _ _ _ _ h
            · have h := h.2 q
              refine g_iconst (pc := 72) (v := 4) hX d_Pa_sumB_72 (by decide) ?_
              refine g_goto (pc := 73) (tgt := 77) hX d_Pa_sumB_73 (by decide) ?_
              refine g_sub [0, 2] rfl ?_
              exact k_Pa_sumB_c77 hS hX hR hN hQ ih _ _ _ _ h
set_option maxRecDepth 100000 in
set_option maxHeartbeats 4000000 in
theorem c_Pa_sumB {fr lo : Nat} {S : Nat → Mem → (Bool → Mem → Prop) → Prop} (hS : ∀ (o : Nat) (A : Mem) (K : Bool → Mem → Prop), S o A K → CtZ y_Pa_sum prog_10_method_30_code 5 fr lo (fun E => [cr E o]) A K) (o : Nat) (A : Mem) (K : Bool → Mem → Prop) (h : wp_Pa_sumB S o A K) : CtZ y_Pa_sum prog_10_method_30_code 5 (fr + 9) (lo + 194) (fun E => [cr E o]) A K := by
  refine ctZ_of "BasicMachine$Parser" (by decide) rfl (fun E => [(0, cr E o)]) (fun E => by simp [lg_sl, cr_cat, ca_i, ca_l, ca_d]) (fun E => by simp [lv_args, cr_cat, ca_i, ca_l, ca_d]) (fun X E hX hR hN hQ => ?_)
  unfold wp_Pa_sumB at h
  refine g_aload_n (pc := 0) hX d_Pa_sumB_0 rfl 0 rfl ?_
  refine g_bipush (pc := 1) (v := 45) hX d_Pa_sumB_1 (by decide) ?_
  obtain ⟨f3, h⟩ := h
  refine g_callV_Z (pc := 3) hX hR f3 cf2 rfl lk_Pa_68 mf_Pa_skip (c_Pa_skip _ _ _ _ h) rfl rfl rfl ⟨by omega, by omega⟩ (cat_sum _ (Nat.le_of_ble_eq_true rfl)) d_Pa_sumB_3 (fun r2 A1 h => ?_)
  refine g_istore_n (pc := 6) (lv0 := [(0, cr E o)]) hX d_Pa_sumB_6 rfl (by rw [hN]; decide) (g_st1b (ks := [0]) rfl (cr_cat _ _) rfl rfl) ?_
  refine g_aload_n (pc := 7) hX d_Pa_sumB_7 rfl 1 rfl ?_
  refine g_callV_Z (pc := 8) hX hR f3 cf2 rfl lk_Pa_256 mf_Pa_product (c_Pa_product hS _ _ _ h) rfl rfl rfl ⟨by omega, by omega⟩ (cat_sum _ (Nat.le_of_ble_eq_true rfl)) d_Pa_sumB_8 (fun r5 A4 h => ?_)
  refine g_ifB_eq (pc := 11) (tgt := 31) hX d_Pa_sumB_11 (by decide) (fun q => ?_) (fun q => ?_)
  · have h := h.1 q
    refine g_iconst (pc := 31) (v := 0) hX d_Pa_sumB_31 (by decide) ?_
    refine g_istore_n (pc := 32) (lv0 := [(1, .int (bI r2)), (0, cr E o)]) hX d_Pa_sumB_32 rfl (by rw [hN]; decide) (g_st1b (ks := [0, 1]) rfl rfl rfl rfl) ?_
    refine g_iconst (pc := 33) (v := 0) hX d_Pa_sumB_33 (by decide) ?_
    refine g_istore_n (pc := 34) (lv0 := [(2, .int (0)), (1, .int (bI r2)), (0, cr E o)]) hX d_Pa_sumB_34 rfl (by rw [hN]; decide) (g_st1b (ks := [0, 1, 2]) rfl rfl rfl rfl) ?_
    refine g_sub [3, 1, 0] rfl ?_
    obtain ⟨n9, h⟩ := h
    exact k_Pa_sumB_c35 hS hX hR hN hQ n9 _ _ _ _ h
  · have h := h.2 q
    refine g_iload_n (pc := 14) hX d_Pa_sumB_14 rfl 0 rfl ?_
    refine g_ifB_eq (pc := 15) (tgt := 27) hX d_Pa_sumB_15 (by decide) (fun q => ?_) (fun q => ?_)
    · have h := h.1 q
      refine g_iconst (pc := 27) (v := 1) hX d_Pa_sumB_27 (by decide) ?_
      refine g_goto (pc := 28) (tgt := 32) hX d_Pa_sumB_28 (by decide) ?_
      refine g_istore_n (pc := 32) (lv0 := [(1, .int (bI r2)), (0, cr E o)]) hX d_Pa_sumB_32 rfl (by rw [hN]; decide) (g_st1b (ks := [0, 1]) rfl rfl rfl rfl) ?_
      refine g_iconst (pc := 33) (v := 0) hX d_Pa_sumB_33 (by decide) ?_
      refine g_istore_n (pc := 34) (lv0 := [(2, .int (1)), (1, .int (bI r2)), (0, cr E o)]) hX d_Pa_sumB_34 rfl (by rw [hN]; decide) (g_st1b (ks := [0, 1, 2]) rfl rfl rfl rfl) ?_
      refine g_sub [3, 1, 0] rfl ?_
      obtain ⟨n9, h⟩ := h
      exact k_Pa_sumB_c35 hS hX hR hN hQ n9 _ _ _ _ h
    · have h := h.2 q
      refine g_aload_n (pc := 18) hX d_Pa_sumB_18 rfl 1 rfl ?_
      refine g_iconst (pc := 19) (v := 3) hX d_Pa_sumB_19 (by decide) ?_
      refine g_iconst (pc := 20) (v := 0) hX d_Pa_sumB_20 (by decide) ?_
      refine g_callV_Z (pc := 21) hX hR f3 cf2 rfl lk_Pa_259 mf_Pa_operation (c_Pa_operation _ _ _ _ _ h) rfl rfl rfl ⟨by omega, by omega⟩ (cat_sum _ (Nat.le_of_ble_eq_true rfl)) d_Pa_sumB_21 (fun r7 A6 h => ?_)
      refine g_ifB_eq (pc := 24) (tgt := 31) hX d_Pa_sumB_24 (by decide) (fun q => ?_) (fun q => ?_)
      · have h := h.1 q
        refine g_iconst (pc := 31) (v := 0) hX d_Pa_sumB_31 (by decide) ?_
        refine g_istore_n (pc := 32) (lv0 := [(1, .int (bI r2)), (0, cr E o)]) hX d_Pa_sumB_32 rfl (by rw [hN]; decide) (g_st1b (ks := [0, 1]) rfl rfl rfl rfl) ?_
        refine g_iconst (pc := 33) (v := 0) hX d_Pa_sumB_33 (by decide) ?_
        refine g_istore_n (pc := 34) (lv0 := [(2, .int (0)), (1, .int (bI r2)), (0, cr E o)]) hX d_Pa_sumB_34 rfl (by rw [hN]; decide) (g_st1b (ks := [0, 1, 2]) rfl rfl rfl rfl) ?_
        refine g_sub [3, 1, 0] rfl ?_
        obtain ⟨n9, h⟩ := h
        exact k_Pa_sumB_c35 hS hX hR hN hQ n9 _ _ _ _ h
      · have h := h.2 q
        refine g_iconst (pc := 27) (v := 1) hX d_Pa_sumB_27 (by decide) ?_
        refine g_goto (pc := 28) (tgt := 32) hX d_Pa_sumB_28 (by decide) ?_
        refine g_istore_n (pc := 32) (lv0 := [(1, .int (bI r2)), (0, cr E o)]) hX d_Pa_sumB_32 rfl (by rw [hN]; decide) (g_st1b (ks := [0, 1]) rfl rfl rfl rfl) ?_
        refine g_iconst (pc := 33) (v := 0) hX d_Pa_sumB_33 (by decide) ?_
        refine g_istore_n (pc := 34) (lv0 := [(2, .int (1)), (1, .int (bI r2)), (0, cr E o)]) hX d_Pa_sumB_34 rfl (by rw [hN]; decide) (g_st1b (ks := [0, 1, 2]) rfl rfl rfl rfl) ?_
        refine g_sub [3, 1, 0] rfl ?_
        obtain ⟨n9, h⟩ := h
        exact k_Pa_sumB_c35 hS hX hR hN hQ n9 _ _ _ _ h
def wp_Pa_sum : Nat → Nat → Mem → (Bool → Mem → Prop) → Prop
  | 0, _, _, _ => False
  | d + 1, o, A, K => wp_Pa_sumB (wp_Pa_sum d) o A K
theorem c_Pa_sum : ∀ (d : Nat) (o : Nat) (A : Mem) (K : Bool → Mem → Prop), wp_Pa_sum d o A K → CtZ y_Pa_sum prog_10_method_30_code 5 (9 * d) (194 * d) (fun E => [cr E o]) A K := by
  intro d
  induction d with
  | zero => intro o A K h; exact h.elim
  | succ d ih =>
    intro o A K h
    have h9 := c_Pa_sumB (fr := 9 * d) (lo := 194 * d) ih o A K h
    rw [Nat.mul_succ, Nat.mul_succ]
    exact h9
def wp_Pa_expression (o : Nat) (A : Mem) (K : Bool → Mem → Prop) : Prop := kd o = 2 ∧ wp_Pa_sum 8 o A (fun (r2 : Bool) (A1 : Mem) => kd (gR A1 o 0) = 3 ∧ wp_Li_endExpression (gR A1 o 0) A1 (fun (A4 : Mem) => K r2 A4))
set_option maxRecDepth 100000 in
set_option maxHeartbeats 4000000 in
theorem c_Pa_expression (o : Nat) (A : Mem) (K : Bool → Mem → Prop) (h : wp_Pa_expression o A K) : CtZ y_Pa_expression prog_10_method_29_code 2 73 1576 (fun E => [cr E o]) A K := by
  refine ctZ_of "BasicMachine$Parser" (by decide) rfl (fun E => [(0, cr E o)]) (fun E => by simp [lg_sl, cr_cat, ca_i, ca_l, ca_d]) (fun E => by simp [lv_args, cr_cat, ca_i, ca_l, ca_d]) (fun X E hX hR hN hQ => ?_)
  unfold wp_Pa_expression at h
  refine g_aload_n (pc := 0) hX d_Pa_expression_0 rfl 0 rfl ?_
  obtain ⟨f3, h⟩ := h
  refine g_callV_Z (pc := 1) hX hR f3 cf2 rfl lk_Pa_250 mf_Pa_sum (c_Pa_sum 8 _ _ _ h) rfl rfl rfl ⟨by decide, by decide⟩ (cat_sum _ (Nat.le_of_ble_eq_true rfl)) d_Pa_expression_1 (fun r2 A1 h => ?_)
  refine g_istore_n (pc := 4) (lv0 := [(0, cr E o)]) hX d_Pa_expression_4 rfl (by rw [hN]; decide) (g_st1b (ks := [0]) rfl (cr_cat _ _) rfl rfl) ?_
  refine g_aload_n (pc := 5) hX d_Pa_expression_5 rfl 1 rfl ?_
  refine g_getR (pc := 6) hX fl_Pa_12 rfl f3 d_Pa_expression_6 ?_
  obtain ⟨f5, h⟩ := h
  refine g_callV_V (pc := 9) hX hR f5 cf3 rfl lk_Pa_253 mf_Li_endExpression (c_Li_endExpression _ _ _ h) rfl rfl rfl ⟨by decide, by decide⟩ (cat_sum _ (Nat.le_of_ble_eq_true rfl)) d_Pa_expression_9 (fun A4 h => ?_)
  refine g_iload_n (pc := 12) hX d_Pa_expression_12 rfl 0 rfl ?_
  exact g_zret hX hQ r2 rfl h d_Pa_expression_13
def wp_Pa_target (o : Nat) (A : Mem) (K : Bool → Mem → Prop) : Prop := kd o = 2 ∧ wp_Pa_next o A (fun (r3 : Int32) (A2 : Mem) => wp_BM_isMatrix r3 A2 (fun (r5 : Bool) (A4 : Mem) => kd (gR A o 0) = 3 ∧ kd (gR (sI A4 (gR A o 0) 4 (bI r5)) o 0) = 3 ∧ ((¬ (gI (sI A4 (gR A o 0) 4 (bI r5)) (gR (sI A4 (gR A o 0) 4 (bI r5)) o 0) 4) = 0 → wp_Pa_matrix o (sI A4 (gR A o 0) 4 (bI r5)) (fun (r9 : Bool) (A8 : Mem) => ((r9 = false → K false A8) ∧ (r9 = true → wp_Pa_openBracket o A8 (fun (r11 : Bool) (A10 : Mem) => ((r11 = false → K false A10) ∧ (r11 = true → wp_Pa_expression o A10 (fun (r13 : Bool) (A12 : Mem) => ((r13 = false → K false A12) ∧ (r13 = true → wp_Pa_skip o 44 A12 (fun (r15 : Bool) (A14 : Mem) => ((r15 = false → K false A14) ∧ (r15 = true → wp_Pa_expression o A14 (fun (r17 : Bool) (A16 : Mem) => ((r17 = false → K false A16) ∧ (r17 = true → wp_Pa_closeBracket o A16 (fun (r19 : Bool) (A18 : Mem) => ((r19 = false → K false A18) ∧ (r19 = true → K true A18))))))))))))))))))) ∧ ((gI (sI A4 (gR A o 0) 4 (bI r5)) (gR (sI A4 (gR A o 0) 4 (bI r5)) o 0) 4) = 0 → wp_Pa_simple o (sI A4 (gR A o 0) 4 (bI r5)) (fun (r21 : Bool) (A20 : Mem) => K r21 A20)))))
set_option maxRecDepth 100000 in
set_option maxHeartbeats 4000000 in
theorem c_Pa_target (o : Nat) (A : Mem) (K : Bool → Mem → Prop) (h : wp_Pa_target o A K) : CtZ y_Pa_target prog_10_method_22_code 1 74 1597 (fun E => [cr E o]) A K := by
  refine ctZ_of "BasicMachine$Parser" (by decide) rfl (fun E => [(0, cr E o)]) (fun E => by simp [lg_sl, cr_cat, ca_i, ca_l, ca_d]) (fun E => by simp [lv_args, cr_cat, ca_i, ca_l, ca_d]) (fun X E hX hR hN hQ => ?_)
  unfold wp_Pa_target at h
  refine g_aload_n (pc := 0) hX d_Pa_target_0 rfl 0 rfl ?_
  obtain ⟨f1, h⟩ := h
  refine g_getR (pc := 1) hX fl_Pa_12 rfl f1 d_Pa_target_1 ?_
  refine g_aload_n (pc := 4) hX d_Pa_target_4 rfl 0 rfl ?_
  refine g_callV_I (pc := 5) hX hR f1 cf2 rfl lk_Pa_157 mf_Pa_next (c_Pa_next _ _ _ h) rfl rfl rfl ⟨by decide, by decide⟩ (cat_sum _ (Nat.le_of_ble_eq_true rfl)) d_Pa_target_5 (fun r3 A2 h => ?_)
  refine g_callSN_Z (pc := 8) hX hR lk_Pa_180 mf_BM_isMatrix (c_BM_isMatrix _ _ _ h) rfl rfl rfl ⟨by decide, by decide⟩ (cat_sum _ (Nat.le_of_ble_eq_true rfl)) d_Pa_target_8 (fun r5 A4 h => ?_)
  obtain ⟨f6, h⟩ := h
  refine g_putZ (pc := 11) hX (isB_bI _) fl_Pa_188 rfl rfl rfl f6 d_Pa_target_11 ?_
  refine g_aload_n (pc := 14) hX d_Pa_target_14 rfl 0 rfl ?_
  refine g_getR (pc := 15) hX fl_Pa_12 rfl f1 d_Pa_target_15 ?_
  obtain ⟨f7, h⟩ := h
  refine g_getI (pc := 18) hX fl_Pa_188 rfl f7 d_Pa_target_18 ?_
  refine g_if_ne (pc := 21) (tgt := 29) hX d_Pa_target_21 (by decide) (fun q => ?_) (fun q => ?_)
  · have h := h.1 q
    refine g_aload_n (pc := 29) hX d_Pa_target_29 rfl 0 rfl ?_
    refine g_callV_Z (pc := 30) hX hR f1 cf2 rfl lk_Pa_142 mf_Pa_matrix (c_Pa_matrix _ _ _ h) rfl rfl rfl ⟨by decide, by decide⟩ (cat_sum _ (Nat.le_of_ble_eq_true rfl)) d_Pa_target_30 (fun r9 A8 h => ?_)
    refine g_ifB_eq (pc := 33) (tgt := 77) hX d_Pa_target_33 (by decide) (fun q => ?_) (fun q => ?_)
    · have h := h.1 q
      refine g_iconst (pc := 77) (v := 0) hX d_Pa_target_77 (by decide) ?_
      exact g_zret hX hQ false rfl h d_Pa_target_78
    · have h := h.2 q
      refine g_aload_n (pc := 36) hX d_Pa_target_36 rfl 0 rfl ?_
      refine g_callV_Z (pc := 37) hX hR f1 cf2 rfl lk_Pa_191 mf_Pa_openBracket (c_Pa_openBracket _ _ _ h) rfl rfl rfl ⟨by decide, by decide⟩ (cat_sum _ (Nat.le_of_ble_eq_true rfl)) d_Pa_target_37 (fun r11 A10 h => ?_)
      refine g_ifB_eq (pc := 40) (tgt := 77) hX d_Pa_target_40 (by decide) (fun q => ?_) (fun q => ?_)
      · have h := h.1 q
        refine g_iconst (pc := 77) (v := 0) hX d_Pa_target_77 (by decide) ?_
        exact g_zret hX hQ false rfl h d_Pa_target_78
      · have h := h.2 q
        refine g_aload_n (pc := 43) hX d_Pa_target_43 rfl 0 rfl ?_
        refine g_callV_Z (pc := 44) hX hR f1 cf2 rfl lk_Pa_112 mf_Pa_expression (c_Pa_expression _ _ _ h) rfl rfl rfl ⟨by decide, by decide⟩ (cat_sum _ (Nat.le_of_ble_eq_true rfl)) d_Pa_target_44 (fun r13 A12 h => ?_)
        refine g_ifB_eq (pc := 47) (tgt := 77) hX d_Pa_target_47 (by decide) (fun q => ?_) (fun q => ?_)
        · have h := h.1 q
          refine g_iconst (pc := 77) (v := 0) hX d_Pa_target_77 (by decide) ?_
          exact g_zret hX hQ false rfl h d_Pa_target_78
        · have h := h.2 q
          refine g_aload_n (pc := 50) hX d_Pa_target_50 rfl 0 rfl ?_
          refine g_bipush (pc := 51) (v := 44) hX d_Pa_target_51 (by decide) ?_
          refine g_callV_Z (pc := 53) hX hR f1 cf2 rfl lk_Pa_68 mf_Pa_skip (c_Pa_skip _ _ _ _ h) rfl rfl rfl ⟨by decide, by decide⟩ (cat_sum _ (Nat.le_of_ble_eq_true rfl)) d_Pa_target_53 (fun r15 A14 h => ?_)
          refine g_ifB_eq (pc := 56) (tgt := 77) hX d_Pa_target_56 (by decide) (fun q => ?_) (fun q => ?_)
          · have h := h.1 q
            refine g_iconst (pc := 77) (v := 0) hX d_Pa_target_77 (by decide) ?_
            exact g_zret hX hQ false rfl h d_Pa_target_78
          · have h := h.2 q
            refine g_aload_n (pc := 59) hX d_Pa_target_59 rfl 0 rfl ?_
            refine g_callV_Z (pc := 60) hX hR f1 cf2 rfl lk_Pa_112 mf_Pa_expression (c_Pa_expression _ _ _ h) rfl rfl rfl ⟨by decide, by decide⟩ (cat_sum _ (Nat.le_of_ble_eq_true rfl)) d_Pa_target_60 (fun r17 A16 h => ?_)
            refine g_ifB_eq (pc := 63) (tgt := 77) hX d_Pa_target_63 (by decide) (fun q => ?_) (fun q => ?_)
            · have h := h.1 q
              refine g_iconst (pc := 77) (v := 0) hX d_Pa_target_77 (by decide) ?_
              exact g_zret hX hQ false rfl h d_Pa_target_78
            · have h := h.2 q
              refine g_aload_n (pc := 66) hX d_Pa_target_66 rfl 0 rfl ?_
              refine g_callV_Z (pc := 67) hX hR f1 cf2 rfl lk_Pa_194 mf_Pa_closeBracket (c_Pa_closeBracket _ _ _ h) rfl rfl rfl ⟨by decide, by decide⟩ (cat_sum _ (Nat.le_of_ble_eq_true rfl)) d_Pa_target_67 (fun r19 A18 h => ?_)
              refine g_ifB_eq (pc := 70) (tgt := 77) hX d_Pa_target_70 (by decide) (fun q => ?_) (fun q => ?_)
              · have h := h.1 q
                refine g_iconst (pc := 77) (v := 0) hX d_Pa_target_77 (by decide) ?_
                exact g_zret hX hQ false rfl h d_Pa_target_78
              · have h := h.2 q
                refine g_iconst (pc := 73) (v := 1) hX d_Pa_target_73 (by decide) ?_
                refine g_goto (pc := 74) (tgt := 78) hX d_Pa_target_74 (by decide) ?_
                exact g_zret hX hQ true rfl h d_Pa_target_78
  · have h := h.2 q
    refine g_aload_n (pc := 24) hX d_Pa_target_24 rfl 0 rfl ?_
    refine g_callV_Z (pc := 25) hX hR f1 cf2 rfl lk_Pa_131 mf_Pa_simple (c_Pa_simple _ _ _ h) rfl rfl rfl ⟨by decide, by decide⟩ (cat_sum _ (Nat.le_of_ble_eq_true rfl)) d_Pa_target_25 (fun r21 A20 h => ?_)
    exact g_zret hX hQ r21 rfl h d_Pa_target_28
def wp_Pa_growth (o : Nat) (A : Mem) (K : Bool → Mem → Prop) : Prop := kd o = 2 ∧ (((gI A o 1) = (gI A o 3) → K true A) ∧ (¬ (gI A o 1) = (gI A o 3) → wp_Pa_word o 2009 A (fun (r3 : Bool) (A2 : Mem) => ((r3 = false → K false A2) ∧ (r3 = true → wp_Pa_expression o A2 (fun (r5 : Bool) (A4 : Mem) => ((r5 = false → K false A4) ∧ (r5 = true → K true A4))))))))
set_option maxRecDepth 100000 in
set_option maxHeartbeats 4000000 in
theorem c_Pa_growth (o : Nat) (A : Mem) (K : Bool → Mem → Prop) (h : wp_Pa_growth o A K) : CtZ y_Pa_growth prog_10_method_24_code 1 74 1597 (fun E => [cr E o]) A K := by
  refine ctZ_of "BasicMachine$Parser" (by decide) rfl (fun E => [(0, cr E o)]) (fun E => by simp [lg_sl, cr_cat, ca_i, ca_l, ca_d]) (fun E => by simp [lv_args, cr_cat, ca_i, ca_l, ca_d]) (fun X E hX hR hN hQ => ?_)
  unfold wp_Pa_growth at h
  refine g_aload_n (pc := 0) hX d_Pa_growth_0 rfl 0 rfl ?_
  obtain ⟨f1, h⟩ := h
  refine g_getI (pc := 1) hX fl_Pa_26 rfl f1 d_Pa_growth_1 ?_
  refine g_aload_n (pc := 4) hX d_Pa_growth_4 rfl 0 rfl ?_
  refine g_getI (pc := 5) hX fl_Pa_46 rfl f1 d_Pa_growth_5 ?_
  refine g_icmp_eq (pc := 8) (tgt := 27) hX d_Pa_growth_8 (by decide) (fun q => ?_) (fun q => ?_)
  · have h := h.1 q
    refine g_iconst (pc := 27) (v := 1) hX d_Pa_growth_27 (by decide) ?_
    refine g_goto (pc := 28) (tgt := 32) hX d_Pa_growth_28 (by decide) ?_
    exact g_zret hX hQ true rfl h d_Pa_growth_32
  · have h := h.2 q
    refine g_aload_n (pc := 11) hX d_Pa_growth_11 rfl 0 rfl ?_
    refine g_ldcS (pc := 12) (i := 9) hX (List.mem_of_getElem? (i := 9) rfl) rfl d_Pa_growth_12 ?_
    refine g_callV_Z (pc := 14) hX hR f1 cf2 rfl lk_Pa_120 mf_Pa_word (c_Pa_word _ _ _ _ h) rfl rfl rfl ⟨by decide, by decide⟩ (cat_sum _ (Nat.le_of_ble_eq_true rfl)) d_Pa_growth_14 (fun r3 A2 h => ?_)
    refine g_ifB_eq (pc := 17) (tgt := 31) hX d_Pa_growth_17 (by decide) (fun q => ?_) (fun q => ?_)
    · have h := h.1 q
      refine g_iconst (pc := 31) (v := 0) hX d_Pa_growth_31 (by decide) ?_
      exact g_zret hX hQ false rfl h d_Pa_growth_32
    · have h := h.2 q
      refine g_aload_n (pc := 20) hX d_Pa_growth_20 rfl 0 rfl ?_
      refine g_callV_Z (pc := 21) hX hR f1 cf2 rfl lk_Pa_112 mf_Pa_expression (c_Pa_expression _ _ _ h) rfl rfl rfl ⟨by decide, by decide⟩ (cat_sum _ (Nat.le_of_ble_eq_true rfl)) d_Pa_growth_21 (fun r5 A4 h => ?_)
      refine g_ifB_eq (pc := 24) (tgt := 31) hX d_Pa_growth_24 (by decide) (fun q => ?_) (fun q => ?_)
      · have h := h.1 q
        refine g_iconst (pc := 31) (v := 0) hX d_Pa_growth_31 (by decide) ?_
        exact g_zret hX hQ false rfl h d_Pa_growth_32
      · have h := h.2 q
        refine g_iconst (pc := 27) (v := 1) hX d_Pa_growth_27 (by decide) ?_
        refine g_goto (pc := 28) (tgt := 32) hX d_Pa_growth_28 (by decide) ?_
        exact g_zret hX hQ true rfl h d_Pa_growth_32
def wp_Pa_source (o : Nat) (A : Mem) (K : Bool → Mem → Prop) : Prop := kd o = 2 ∧ wp_Pa_next o A (fun (r2 : Int32) (A1 : Mem) => ((r2 = 40 → wp_Pa_form o 1108 A1 (fun (r5 : Bool) (A4 : Mem) => ((r5 = false → K false A4) ∧ (r5 = true → wp_Pa_openBracket o A4 (fun (r7 : Bool) (A6 : Mem) => ((r7 = false → K false A6) ∧ (r7 = true → wp_Pa_expression o A6 (fun (r9 : Bool) (A8 : Mem) => ((r9 = false → K false A8) ∧ (r9 = true → wp_Pa_word o 2014 A8 (fun (r11 : Bool) (A10 : Mem) => ((r11 = false → K false A10) ∧ (r11 = true → wp_Pa_operand o A10 (fun (r13 : Bool) (A12 : Mem) => ((r13 = false → K false A12) ∧ (r13 = true → K true A12)))))))))))))))) ∧ (r2 = 67 → wp_Pa_form o 1101 A1 (fun (r15 : Bool) (A14 : Mem) => ((r15 = false → K false A14) ∧ (r15 = true → wp_Pa_word o 2011 A14 (fun (r17 : Bool) (A16 : Mem) => ((r17 = false → K false A16) ∧ (r17 = true → K true A16))))))) ∧ (r2 = 73 → wp_Pa_form o 1102 A1 (fun (r19 : Bool) (A18 : Mem) => ((r19 = false → K false A18) ∧ (r19 = true → wp_Pa_word o 2012 A18 (fun (r21 : Bool) (A20 : Mem) => ((r21 = false → K false A20) ∧ (r21 = true → K true A20))))))) ∧ (r2 = 84 → wp_Pa_form o 1107 A1 (fun (r23 : Bool) (A22 : Mem) => ((r23 = false → K false A22) ∧ (r23 = true → wp_Pa_word o 2013 A22 (fun (r25 : Bool) (A24 : Mem) => ((r25 = false → K false A24) ∧ (r25 = true → wp_Pa_operand o A24 (fun (r27 : Bool) (A26 : Mem) => ((r27 = false → K false A26) ∧ (r27 = true → wp_Pa_skip o 41 A26 (fun (r29 : Bool) (A28 : Mem) => ((r29 = false → K false A28) ∧ (r29 = true → K true A28))))))))))))) ∧ (r2 = 90 → wp_Pa_form o 1100 A1 (fun (r31 : Bool) (A30 : Mem) => ((r31 = false → K false A30) ∧ (r31 = true → wp_Pa_word o 2010 A30 (fun (r33 : Bool) (A32 : Mem) => ((r33 = false → K false A32) ∧ (r33 = true → K true A32))))))) ∧ (¬ r2 = 40 → ¬ r2 = 67 → ¬ r2 = 73 → ¬ r2 = 84 → ¬ r2 = 90 → wp_Pa_form o 1103 A1 (fun (r35 : Bool) (A34 : Mem) => ((r35 = false → K false A34) ∧ (r35 = true → wp_Pa_operand o A34 (fun (r37 : Bool) (A36 : Mem) => ((r37 = false → K false A36) ∧ (r37 = true → wp_Pa_secondOperand o A36 (fun (r39 : Bool) (A38 : Mem) => ((r39 = false → K false A38) ∧ (r39 = true → K true A38))))))))))))
set_option maxRecDepth 100000 in
set_option maxHeartbeats 4000000 in
theorem c_Pa_source (o : Nat) (A : Mem) (K : Bool → Mem → Prop) (h : wp_Pa_source o A K) : CtZ y_Pa_source prog_10_method_25_code 1 74 1597 (fun E => [cr E o]) A K := by
  refine ctZ_of "BasicMachine$Parser" (by decide) rfl (fun E => [(0, cr E o)]) (fun E => by simp [lg_sl, cr_cat, ca_i, ca_l, ca_d]) (fun E => by simp [lv_args, cr_cat, ca_i, ca_l, ca_d]) (fun X E hX hR hN hQ => ?_)
  unfold wp_Pa_source at h
  refine g_aload_n (pc := 0) hX d_Pa_source_0 rfl 0 rfl ?_
  obtain ⟨f3, h⟩ := h
  refine g_callV_I (pc := 1) hX hR f3 cf2 rfl lk_Pa_157 mf_Pa_next (c_Pa_next _ _ _ h) rfl rfl rfl ⟨by decide, by decide⟩ (cat_sum _ (Nat.le_of_ble_eq_true rfl)) d_Pa_source_1 (fun r2 A1 h => ?_)
  by_cases q0 : r2 = 40
  · have h := h.1 q0
    refine g_look (pc := 4) (tgt := 172) (off := 168) hX (v := 40) q0 d_Pa_source_4 (by decide +kernel) (by decide +kernel) (by decide) ?_
    refine g_aload_n (pc := 172) hX d_Pa_source_172 rfl 0 rfl ?_
    refine g_getsE (pc := 173) (i := 8) hX (gSF hX).2.1 (by decide) rfl (by decide) ls_Pa_228 d_Pa_source_173 ?_
    refine g_callV_Z (pc := 176) hX hR f3 cf2 rfl lk_Pa_207 mf_Pa_form (c_Pa_form _ _ _ _ h) rfl rfl rfl ⟨by decide, by decide⟩ (cat_sum _ (Nat.le_of_ble_eq_true rfl)) d_Pa_source_176 (fun r5 A4 h => ?_)
    refine g_ifB_eq (pc := 179) (tgt := 216) hX d_Pa_source_179 (by decide) (fun q => ?_) (fun q => ?_)
    · have h := h.1 q
      refine g_iconst (pc := 216) (v := 0) hX d_Pa_source_216 (by decide) ?_
      exact g_zret hX hQ false rfl h d_Pa_source_217
    · have h := h.2 q
      refine g_aload_n (pc := 182) hX d_Pa_source_182 rfl 0 rfl ?_
      refine g_callV_Z (pc := 183) hX hR f3 cf2 rfl lk_Pa_191 mf_Pa_openBracket (c_Pa_openBracket _ _ _ h) rfl rfl rfl ⟨by decide, by decide⟩ (cat_sum _ (Nat.le_of_ble_eq_true rfl)) d_Pa_source_183 (fun r7 A6 h => ?_)
      refine g_ifB_eq (pc := 186) (tgt := 216) hX d_Pa_source_186 (by decide) (fun q => ?_) (fun q => ?_)
      · have h := h.1 q
        refine g_iconst (pc := 216) (v := 0) hX d_Pa_source_216 (by decide) ?_
        exact g_zret hX hQ false rfl h d_Pa_source_217
      · have h := h.2 q
        refine g_aload_n (pc := 189) hX d_Pa_source_189 rfl 0 rfl ?_
        refine g_callV_Z (pc := 190) hX hR f3 cf2 rfl lk_Pa_112 mf_Pa_expression (c_Pa_expression _ _ _ h) rfl rfl rfl ⟨by decide, by decide⟩ (cat_sum _ (Nat.le_of_ble_eq_true rfl)) d_Pa_source_190 (fun r9 A8 h => ?_)
        refine g_ifB_eq (pc := 193) (tgt := 216) hX d_Pa_source_193 (by decide) (fun q => ?_) (fun q => ?_)
        · have h := h.1 q
          refine g_iconst (pc := 216) (v := 0) hX d_Pa_source_216 (by decide) ?_
          exact g_zret hX hQ false rfl h d_Pa_source_217
        · have h := h.2 q
          refine g_aload_n (pc := 196) hX d_Pa_source_196 rfl 0 rfl ?_
          refine g_ldcS (pc := 197) (i := 14) hX (List.mem_of_getElem? (i := 14) rfl) rfl d_Pa_source_197 ?_
          refine g_callV_Z (pc := 199) hX hR f3 cf2 rfl lk_Pa_120 mf_Pa_word (c_Pa_word _ _ _ _ h) rfl rfl rfl ⟨by decide, by decide⟩ (cat_sum _ (Nat.le_of_ble_eq_true rfl)) d_Pa_source_199 (fun r11 A10 h => ?_)
          refine g_ifB_eq (pc := 202) (tgt := 216) hX d_Pa_source_202 (by decide) (fun q => ?_) (fun q => ?_)
          · have h := h.1 q
            refine g_iconst (pc := 216) (v := 0) hX d_Pa_source_216 (by decide) ?_
            exact g_zret hX hQ false rfl h d_Pa_source_217
          · have h := h.2 q
            refine g_aload_n (pc := 205) hX d_Pa_source_205 rfl 0 rfl ?_
            refine g_callV_Z (pc := 206) hX hR f3 cf2 rfl lk_Pa_225 mf_Pa_operand (c_Pa_operand _ _ _ h) rfl rfl rfl ⟨by decide, by decide⟩ (cat_sum _ (Nat.le_of_ble_eq_true rfl)) d_Pa_source_206 (fun r13 A12 h => ?_)
            refine g_ifB_eq (pc := 209) (tgt := 216) hX d_Pa_source_209 (by decide) (fun q => ?_) (fun q => ?_)
            · have h := h.1 q
              refine g_iconst (pc := 216) (v := 0) hX d_Pa_source_216 (by decide) ?_
              exact g_zret hX hQ false rfl h d_Pa_source_217
            · have h := h.2 q
              refine g_iconst (pc := 212) (v := 1) hX d_Pa_source_212 (by decide) ?_
              refine g_goto (pc := 213) (tgt := 217) hX d_Pa_source_213 (by decide) ?_
              exact g_zret hX hQ true rfl h d_Pa_source_217
  by_cases q1 : r2 = 67
  · have h := h.2.1 q1
    refine g_look (pc := 4) (tgt := 81) (off := 77) hX (v := 67) q1 d_Pa_source_4 (by decide +kernel) (by decide +kernel) (by decide) ?_
    refine g_aload_n (pc := 81) hX d_Pa_source_81 rfl 0 rfl ?_
    refine g_getsE (pc := 82) (i := 1) hX (gSF hX).2.1 (by decide) rfl (by decide) ls_Pa_212 d_Pa_source_82 ?_
    refine g_callV_Z (pc := 85) hX hR f3 cf2 rfl lk_Pa_207 mf_Pa_form (c_Pa_form _ _ _ _ h) rfl rfl rfl ⟨by decide, by decide⟩ (cat_sum _ (Nat.le_of_ble_eq_true rfl)) d_Pa_source_85 (fun r15 A14 h => ?_)
    refine g_ifB_eq (pc := 88) (tgt := 104) hX d_Pa_source_88 (by decide) (fun q => ?_) (fun q => ?_)
    · have h := h.1 q
      refine g_iconst (pc := 104) (v := 0) hX d_Pa_source_104 (by decide) ?_
      exact g_zret hX hQ false rfl h d_Pa_source_105
    · have h := h.2 q
      refine g_aload_n (pc := 91) hX d_Pa_source_91 rfl 0 rfl ?_
      refine g_ldcS (pc := 92) (i := 11) hX (List.mem_of_getElem? (i := 11) rfl) rfl d_Pa_source_92 ?_
      refine g_callV_Z (pc := 94) hX hR f3 cf2 rfl lk_Pa_120 mf_Pa_word (c_Pa_word _ _ _ _ h) rfl rfl rfl ⟨by decide, by decide⟩ (cat_sum _ (Nat.le_of_ble_eq_true rfl)) d_Pa_source_94 (fun r17 A16 h => ?_)
      refine g_ifB_eq (pc := 97) (tgt := 104) hX d_Pa_source_97 (by decide) (fun q => ?_) (fun q => ?_)
      · have h := h.1 q
        refine g_iconst (pc := 104) (v := 0) hX d_Pa_source_104 (by decide) ?_
        exact g_zret hX hQ false rfl h d_Pa_source_105
      · have h := h.2 q
        refine g_iconst (pc := 100) (v := 1) hX d_Pa_source_100 (by decide) ?_
        refine g_goto (pc := 101) (tgt := 105) hX d_Pa_source_101 (by decide) ?_
        exact g_zret hX hQ true rfl h d_Pa_source_105
  by_cases q2 : r2 = 73
  · have h := h.2.2.1 q2
    refine g_look (pc := 4) (tgt := 106) (off := 102) hX (v := 73) q2 d_Pa_source_4 (by decide +kernel) (by decide +kernel) (by decide) ?_
    refine g_aload_n (pc := 106) hX d_Pa_source_106 rfl 0 rfl ?_
    refine g_getsE (pc := 107) (i := 2) hX (gSF hX).2.1 (by decide) rfl (by decide) ls_Pa_216 d_Pa_source_107 ?_
    refine g_callV_Z (pc := 110) hX hR f3 cf2 rfl lk_Pa_207 mf_Pa_form (c_Pa_form _ _ _ _ h) rfl rfl rfl ⟨by decide, by decide⟩ (cat_sum _ (Nat.le_of_ble_eq_true rfl)) d_Pa_source_110 (fun r19 A18 h => ?_)
    refine g_ifB_eq (pc := 113) (tgt := 129) hX d_Pa_source_113 (by decide) (fun q => ?_) (fun q => ?_)
    · have h := h.1 q
      refine g_iconst (pc := 129) (v := 0) hX d_Pa_source_129 (by decide) ?_
      exact g_zret hX hQ false rfl h d_Pa_source_130
    · have h := h.2 q
      refine g_aload_n (pc := 116) hX d_Pa_source_116 rfl 0 rfl ?_
      refine g_ldcS (pc := 117) (i := 12) hX (List.mem_of_getElem? (i := 12) rfl) rfl d_Pa_source_117 ?_
      refine g_callV_Z (pc := 119) hX hR f3 cf2 rfl lk_Pa_120 mf_Pa_word (c_Pa_word _ _ _ _ h) rfl rfl rfl ⟨by decide, by decide⟩ (cat_sum _ (Nat.le_of_ble_eq_true rfl)) d_Pa_source_119 (fun r21 A20 h => ?_)
      refine g_ifB_eq (pc := 122) (tgt := 129) hX d_Pa_source_122 (by decide) (fun q => ?_) (fun q => ?_)
      · have h := h.1 q
        refine g_iconst (pc := 129) (v := 0) hX d_Pa_source_129 (by decide) ?_
        exact g_zret hX hQ false rfl h d_Pa_source_130
      · have h := h.2 q
        refine g_iconst (pc := 125) (v := 1) hX d_Pa_source_125 (by decide) ?_
        refine g_goto (pc := 126) (tgt := 130) hX d_Pa_source_126 (by decide) ?_
        exact g_zret hX hQ true rfl h d_Pa_source_130
  by_cases q3 : r2 = 84
  · have h := h.2.2.2.1 q3
    refine g_look (pc := 4) (tgt := 131) (off := 127) hX (v := 84) q3 d_Pa_source_4 (by decide +kernel) (by decide +kernel) (by decide) ?_
    refine g_aload_n (pc := 131) hX d_Pa_source_131 rfl 0 rfl ?_
    refine g_getsE (pc := 132) (i := 7) hX (gSF hX).2.1 (by decide) rfl (by decide) ls_Pa_220 d_Pa_source_132 ?_
    refine g_callV_Z (pc := 135) hX hR f3 cf2 rfl lk_Pa_207 mf_Pa_form (c_Pa_form _ _ _ _ h) rfl rfl rfl ⟨by decide, by decide⟩ (cat_sum _ (Nat.le_of_ble_eq_true rfl)) d_Pa_source_135 (fun r23 A22 h => ?_)
    refine g_ifB_eq (pc := 138) (tgt := 170) hX d_Pa_source_138 (by decide) (fun q => ?_) (fun q => ?_)
    · have h := h.1 q
      refine g_iconst (pc := 170) (v := 0) hX d_Pa_source_170 (by decide) ?_
      exact g_zret hX hQ false rfl h d_Pa_source_171
    · have h := h.2 q
      refine g_aload_n (pc := 141) hX d_Pa_source_141 rfl 0 rfl ?_
      refine g_ldcS (pc := 142) (i := 13) hX (List.mem_of_getElem? (i := 13) rfl) rfl d_Pa_source_142 ?_
      refine g_callV_Z (pc := 144) hX hR f3 cf2 rfl lk_Pa_120 mf_Pa_word (c_Pa_word _ _ _ _ h) rfl rfl rfl ⟨by decide, by decide⟩ (cat_sum _ (Nat.le_of_ble_eq_true rfl)) d_Pa_source_144 (fun r25 A24 h => ?_)
      refine g_ifB_eq (pc := 147) (tgt := 170) hX d_Pa_source_147 (by decide) (fun q => ?_) (fun q => ?_)
      · have h := h.1 q
        refine g_iconst (pc := 170) (v := 0) hX d_Pa_source_170 (by decide) ?_
        exact g_zret hX hQ false rfl h d_Pa_source_171
      · have h := h.2 q
        refine g_aload_n (pc := 150) hX d_Pa_source_150 rfl 0 rfl ?_
        refine g_callV_Z (pc := 151) hX hR f3 cf2 rfl lk_Pa_225 mf_Pa_operand (c_Pa_operand _ _ _ h) rfl rfl rfl ⟨by decide, by decide⟩ (cat_sum _ (Nat.le_of_ble_eq_true rfl)) d_Pa_source_151 (fun r27 A26 h => ?_)
        refine g_ifB_eq (pc := 154) (tgt := 170) hX d_Pa_source_154 (by decide) (fun q => ?_) (fun q => ?_)
        · have h := h.1 q
          refine g_iconst (pc := 170) (v := 0) hX d_Pa_source_170 (by decide) ?_
          exact g_zret hX hQ false rfl h d_Pa_source_171
        · have h := h.2 q
          refine g_aload_n (pc := 157) hX d_Pa_source_157 rfl 0 rfl ?_
          refine g_bipush (pc := 158) (v := 41) hX d_Pa_source_158 (by decide) ?_
          refine g_callV_Z (pc := 160) hX hR f3 cf2 rfl lk_Pa_68 mf_Pa_skip (c_Pa_skip _ _ _ _ h) rfl rfl rfl ⟨by decide, by decide⟩ (cat_sum _ (Nat.le_of_ble_eq_true rfl)) d_Pa_source_160 (fun r29 A28 h => ?_)
          refine g_ifB_eq (pc := 163) (tgt := 170) hX d_Pa_source_163 (by decide) (fun q => ?_) (fun q => ?_)
          · have h := h.1 q
            refine g_iconst (pc := 170) (v := 0) hX d_Pa_source_170 (by decide) ?_
            exact g_zret hX hQ false rfl h d_Pa_source_171
          · have h := h.2 q
            refine g_iconst (pc := 166) (v := 1) hX d_Pa_source_166 (by decide) ?_
            refine g_goto (pc := 167) (tgt := 171) hX d_Pa_source_167 (by decide) ?_
            exact g_zret hX hQ true rfl h d_Pa_source_171
  by_cases q4 : r2 = 90
  · have h := h.2.2.2.2.1 q4
    refine g_look (pc := 4) (tgt := 56) (off := 52) hX (v := 90) q4 d_Pa_source_4 (by decide +kernel) (by decide +kernel) (by decide) ?_
    refine g_aload_n (pc := 56) hX d_Pa_source_56 rfl 0 rfl ?_
    refine g_getsE (pc := 57) (i := 0) hX (gSF hX).2.1 (by decide) rfl (by decide) ls_Pa_201 d_Pa_source_57 ?_
    refine g_callV_Z (pc := 60) hX hR f3 cf2 rfl lk_Pa_207 mf_Pa_form (c_Pa_form _ _ _ _ h) rfl rfl rfl ⟨by decide, by decide⟩ (cat_sum _ (Nat.le_of_ble_eq_true rfl)) d_Pa_source_60 (fun r31 A30 h => ?_)
    refine g_ifB_eq (pc := 63) (tgt := 79) hX d_Pa_source_63 (by decide) (fun q => ?_) (fun q => ?_)
    · have h := h.1 q
      refine g_iconst (pc := 79) (v := 0) hX d_Pa_source_79 (by decide) ?_
      exact g_zret hX hQ false rfl h d_Pa_source_80
    · have h := h.2 q
      refine g_aload_n (pc := 66) hX d_Pa_source_66 rfl 0 rfl ?_
      refine g_ldcS (pc := 67) (i := 10) hX (List.mem_of_getElem? (i := 10) rfl) rfl d_Pa_source_67 ?_
      refine g_callV_Z (pc := 69) hX hR f3 cf2 rfl lk_Pa_120 mf_Pa_word (c_Pa_word _ _ _ _ h) rfl rfl rfl ⟨by decide, by decide⟩ (cat_sum _ (Nat.le_of_ble_eq_true rfl)) d_Pa_source_69 (fun r33 A32 h => ?_)
      refine g_ifB_eq (pc := 72) (tgt := 79) hX d_Pa_source_72 (by decide) (fun q => ?_) (fun q => ?_)
      · have h := h.1 q
        refine g_iconst (pc := 79) (v := 0) hX d_Pa_source_79 (by decide) ?_
        exact g_zret hX hQ false rfl h d_Pa_source_80
      · have h := h.2 q
        refine g_iconst (pc := 75) (v := 1) hX d_Pa_source_75 (by decide) ?_
        refine g_goto (pc := 76) (tgt := 80) hX d_Pa_source_76 (by decide) ?_
        exact g_zret hX hQ true rfl h d_Pa_source_80
  have h := h.2.2.2.2.2 q0 q1 q2 q3 q4
  refine g_lookout (pc := 4) (tgt := 218) hX (vs := [(40 : Int32), (67 : Int32), (73 : Int32), (84 : Int32), (90 : Int32)]) (List.forall_mem_cons.mpr ⟨q0, List.forall_mem_cons.mpr ⟨q1, List.forall_mem_cons.mpr ⟨q2, List.forall_mem_cons.mpr ⟨q3, List.forall_mem_cons.mpr ⟨q4, fun _ h9 => absurd h9 List.not_mem_nil⟩⟩⟩⟩⟩) d_Pa_source_4 (by decide +kernel) (by decide +kernel) (by decide) ?_
  refine g_aload_n (pc := 218) hX d_Pa_source_218 rfl 0 rfl ?_
  refine g_getsE (pc := 219) (i := 3) hX (gSF hX).2.1 (by decide) rfl (by decide) ls_Pa_233 d_Pa_source_219 ?_
  refine g_callV_Z (pc := 222) hX hR f3 cf2 rfl lk_Pa_207 mf_Pa_form (c_Pa_form _ _ _ _ h) rfl rfl rfl ⟨by decide, by decide⟩ (cat_sum _ (Nat.le_of_ble_eq_true rfl)) d_Pa_source_222 (fun r35 A34 h => ?_)
  refine g_ifB_eq (pc := 225) (tgt := 246) hX d_Pa_source_225 (by decide) (fun q => ?_) (fun q => ?_)
  · have h := h.1 q
    refine g_iconst (pc := 246) (v := 0) hX d_Pa_source_246 (by decide) ?_
    exact g_zret hX hQ false rfl h d_Pa_source_247
  · have h := h.2 q
    refine g_aload_n (pc := 228) hX d_Pa_source_228 rfl 0 rfl ?_
    refine g_callV_Z (pc := 229) hX hR f3 cf2 rfl lk_Pa_225 mf_Pa_operand (c_Pa_operand _ _ _ h) rfl rfl rfl ⟨by decide, by decide⟩ (cat_sum _ (Nat.le_of_ble_eq_true rfl)) d_Pa_source_229 (fun r37 A36 h => ?_)
    refine g_ifB_eq (pc := 232) (tgt := 246) hX d_Pa_source_232 (by decide) (fun q => ?_) (fun q => ?_)
    · have h := h.1 q
      refine g_iconst (pc := 246) (v := 0) hX d_Pa_source_246 (by decide) ?_
      exact g_zret hX hQ false rfl h d_Pa_source_247
    · have h := h.2 q
      refine g_aload_n (pc := 235) hX d_Pa_source_235 rfl 0 rfl ?_
      refine g_callV_Z (pc := 236) hX hR f3 cf2 rfl lk_Pa_236 mf_Pa_secondOperand (c_Pa_secondOperand _ _ _ h) rfl rfl rfl ⟨by decide, by decide⟩ (cat_sum _ (Nat.le_of_ble_eq_true rfl)) d_Pa_source_236 (fun r39 A38 h => ?_)
      refine g_ifB_eq (pc := 239) (tgt := 246) hX d_Pa_source_239 (by decide) (fun q => ?_) (fun q => ?_)
      · have h := h.1 q
        refine g_iconst (pc := 246) (v := 0) hX d_Pa_source_246 (by decide) ?_
        exact g_zret hX hQ false rfl h d_Pa_source_247
      · have h := h.2 q
        refine g_iconst (pc := 242) (v := 1) hX d_Pa_source_242 (by decide) ?_
        refine g_goto (pc := 243) (tgt := 247) hX d_Pa_source_243 (by decide) ?_
        exact g_zret hX hQ true rfl h d_Pa_source_247
def wp_Pa_rest (o : Nat) (A : Mem) (K : Bool → Mem → Prop) : Prop := kd o = 2 ∧ kd (gR A o 0) = 3 ∧ (1000 ≤ (gR A (gR A o 0) 2) ∧ (gR A (gR A o 0) 2) < 1017) ∧ vp_in (nI ((gR A (gR A o 0) 2) - 1000)) 17 ∧ (((tb1300.getD (Int32.toNatClampNeg (nI ((gR A (gR A o 0) 2) - 1000))) 0) = 1 → wp_Pa_target o A (fun (r6 : Bool) (A5 : Mem) => ((r6 = false → K false A5) ∧ (r6 = true → wp_Pa_skip o 61 A5 (fun (r8 : Bool) (A7 : Mem) => ((r8 = false → K false A7) ∧ (r8 = true → wp_Pa_expression o A7 (fun (r10 : Bool) (A9 : Mem) => ((r10 = false → K false A9) ∧ (r10 = true → K true A9)))))))))) ∧ ((tb1300.getD (Int32.toNatClampNeg (nI ((gR A (gR A o 0) 2) - 1000))) 0) = 2 → wp_Pa_expression o A (fun (r12 : Bool) (A11 : Mem) => K r12 A11)) ∧ ((tb1300.getD (Int32.toNatClampNeg (nI ((gR A (gR A o 0) 2) - 1000))) 0) = 3 → wp_Pa_expression o A (fun (r14 : Bool) (A13 : Mem) => ((r14 = false → K false A13) ∧ (r14 = true → wp_Pa_relation o A13 (fun (r16 : Bool) (A15 : Mem) => ((r16 = false → K false A15) ∧ (r16 = true → wp_Pa_expression o A15 (fun (r18 : Bool) (A17 : Mem) => ((r18 = false → K false A17) ∧ (r18 = true → wp_Pa_word o 2006 A17 (fun (r20 : Bool) (A19 : Mem) => ((r20 = false → K false A19) ∧ (r20 = true → wp_Pa_jump o A19 (fun (r22 : Bool) (A21 : Mem) => ((r22 = false → K false A21) ∧ (r22 = true → K true A21)))))))))))))))) ∧ ((tb1300.getD (Int32.toNatClampNeg (nI ((gR A (gR A o 0) 2) - 1000))) 0) = 4 → wp_Pa_jump o A (fun (r24 : Bool) (A23 : Mem) => K r24 A23)) ∧ ((tb1300.getD (Int32.toNatClampNeg (nI ((gR A (gR A o 0) 2) - 1000))) 0) = 5 → wp_Pa_expression o A (fun (r26 : Bool) (A25 : Mem) => ((r26 = false → K false A25) ∧ (r26 = true → wp_Pa_word o 2007 A25 (fun (r28 : Bool) (A27 : Mem) => ((r28 = false → K false A27) ∧ (r28 = true → wp_Pa_jumps o A27 (fun (r30 : Bool) (A29 : Mem) => ((r30 = false → K false A29) ∧ (r30 = true → K true A29)))))))))) ∧ ((tb1300.getD (Int32.toNatClampNeg (nI ((gR A (gR A o 0) 2) - 1000))) 0) = 6 → wp_Pa_jump o A (fun (r32 : Bool) (A31 : Mem) => K r32 A31)) ∧ ((tb1300.getD (Int32.toNatClampNeg (nI ((gR A (gR A o 0) 2) - 1000))) 0) = 7 → wp_Pa_simple o A (fun (r34 : Bool) (A33 : Mem) => ((r34 = false → K false A33) ∧ (r34 = true → wp_Pa_skip o 61 A33 (fun (r36 : Bool) (A35 : Mem) => ((r36 = false → K false A35) ∧ (r36 = true → wp_Pa_expression o A35 (fun (r38 : Bool) (A37 : Mem) => ((r38 = false → K false A37) ∧ (r38 = true → wp_Pa_word o 2008 A37 (fun (r40 : Bool) (A39 : Mem) => ((r40 = false → K false A39) ∧ (r40 = true → wp_Pa_expression o A39 (fun (r42 : Bool) (A41 : Mem) => ((r42 = false → K false A41) ∧ (r42 = true → wp_Pa_growth o A41 (fun (r44 : Bool) (A43 : Mem) => ((r44 = false → K false A43) ∧ (r44 = true → K true A43))))))))))))))))))) ∧ ((tb1300.getD (Int32.toNatClampNeg (nI ((gR A (gR A o 0) 2) - 1000))) 0) = 8 → wp_Pa_simple o A (fun (r46 : Bool) (A45 : Mem) => K r46 A45)) ∧ ((tb1300.getD (Int32.toNatClampNeg (nI ((gR A (gR A o 0) 2) - 1000))) 0) = 9 → wp_Pa_target o A (fun (r48 : Bool) (A47 : Mem) => K r48 A47)) ∧ ((tb1300.getD (Int32.toNatClampNeg (nI ((gR A (gR A o 0) 2) - 1000))) 0) = 10 → wp_Pa_constants o A (fun (r50 : Bool) (A49 : Mem) => K r50 A49)) ∧ ((tb1300.getD (Int32.toNatClampNeg (nI ((gR A (gR A o 0) 2) - 1000))) 0) = 11 → wp_Pa_matrix o A (fun (r52 : Bool) (A51 : Mem) => ((r52 = false → K false A51) ∧ (r52 = true → wp_Pa_skip o 40 A51 (fun (r54 : Bool) (A53 : Mem) => ((r54 = false → K false A53) ∧ (r54 = true → wp_Pa_extent o A53 (fun (r56 : Bool) (A55 : Mem) => ((r56 = false → K false A55) ∧ (r56 = true → wp_Pa_skip o 44 A55 (fun (r58 : Bool) (A57 : Mem) => ((r58 = false → K false A57) ∧ (r58 = true → wp_Pa_extent o A57 (fun (r60 : Bool) (A59 : Mem) => ((r60 = false → K false A59) ∧ (r60 = true → wp_Pa_skip o 41 A59 (fun (r62 : Bool) (A61 : Mem) => ((r62 = false → K false A61) ∧ (r62 = true → K true A61))))))))))))))))))) ∧ ((tb1300.getD (Int32.toNatClampNeg (nI ((gR A (gR A o 0) 2) - 1000))) 0) = 12 → wp_Pa_function o A (fun (r64 : Bool) (A63 : Mem) => ((r64 = false → K false A63) ∧ (r64 = true → wp_Pa_skip o 40 A63 (fun (r66 : Bool) (A65 : Mem) => ((r66 = false → K false A65) ∧ (r66 = true → wp_Pa_simple o A65 (fun (r68 : Bool) (A67 : Mem) => ((r68 = false → K false A67) ∧ (r68 = true → wp_Pa_skip o 41 A67 (fun (r70 : Bool) (A69 : Mem) => ((r70 = false → K false A69) ∧ (r70 = true → wp_Pa_skip o 61 A69 (fun (r72 : Bool) (A71 : Mem) => ((r72 = false → K false A71) ∧ (r72 = true → wp_Pa_expression o A71 (fun (r74 : Bool) (A73 : Mem) => ((r74 = false → K false A73) ∧ (r74 = true → K true A73))))))))))))))))))) ∧ ((tb1300.getD (Int32.toNatClampNeg (nI ((gR A (gR A o 0) 2) - 1000))) 0) = 13 → wp_Pa_matrix o A (fun (r76 : Bool) (A75 : Mem) => ((r76 = false → K false A75) ∧ (r76 = true → wp_Pa_skip o 61 A75 (fun (r78 : Bool) (A77 : Mem) => ((r78 = false → K false A77) ∧ (r78 = true → wp_Pa_source o A77 (fun (r80 : Bool) (A79 : Mem) => ((r80 = false → K false A79) ∧ (r80 = true → K true A79)))))))))) ∧ ((tb1300.getD (Int32.toNatClampNeg (nI ((gR A (gR A o 0) 2) - 1000))) 0) = 14 → wp_Pa_anything o A (fun (r82 : Bool) (A81 : Mem) => K r82 A81)) ∧ (¬ (tb1300.getD (Int32.toNatClampNeg (nI ((gR A (gR A o 0) 2) - 1000))) 0) = 1 → ¬ (tb1300.getD (Int32.toNatClampNeg (nI ((gR A (gR A o 0) 2) - 1000))) 0) = 2 → ¬ (tb1300.getD (Int32.toNatClampNeg (nI ((gR A (gR A o 0) 2) - 1000))) 0) = 3 → ¬ (tb1300.getD (Int32.toNatClampNeg (nI ((gR A (gR A o 0) 2) - 1000))) 0) = 4 → ¬ (tb1300.getD (Int32.toNatClampNeg (nI ((gR A (gR A o 0) 2) - 1000))) 0) = 5 → ¬ (tb1300.getD (Int32.toNatClampNeg (nI ((gR A (gR A o 0) 2) - 1000))) 0) = 6 → ¬ (tb1300.getD (Int32.toNatClampNeg (nI ((gR A (gR A o 0) 2) - 1000))) 0) = 7 → ¬ (tb1300.getD (Int32.toNatClampNeg (nI ((gR A (gR A o 0) 2) - 1000))) 0) = 8 → ¬ (tb1300.getD (Int32.toNatClampNeg (nI ((gR A (gR A o 0) 2) - 1000))) 0) = 9 → ¬ (tb1300.getD (Int32.toNatClampNeg (nI ((gR A (gR A o 0) 2) - 1000))) 0) = 10 → ¬ (tb1300.getD (Int32.toNatClampNeg (nI ((gR A (gR A o 0) 2) - 1000))) 0) = 11 → ¬ (tb1300.getD (Int32.toNatClampNeg (nI ((gR A (gR A o 0) 2) - 1000))) 0) = 12 → ¬ (tb1300.getD (Int32.toNatClampNeg (nI ((gR A (gR A o 0) 2) - 1000))) 0) = 13 → ¬ (tb1300.getD (Int32.toNatClampNeg (nI ((gR A (gR A o 0) 2) - 1000))) 0) = 14 → K true A))
set_option maxRecDepth 100000 in
set_option maxHeartbeats 4000000 in
theorem c_Pa_rest (o : Nat) (A : Mem) (K : Bool → Mem → Prop) (h : wp_Pa_rest o A K) : CtZ y_Pa_rest prog_10_method_10_code 1 75 1617 (fun E => [cr E o]) A K := by
  refine ctZ_of "BasicMachine$Parser" (by decide) rfl (fun E => [(0, cr E o)]) (fun E => by simp [lg_sl, cr_cat, ca_i, ca_l, ca_d]) (fun E => by simp [lv_args, cr_cat, ca_i, ca_l, ca_d]) (fun X E hX hR hN hQ => ?_)
  unfold wp_Pa_rest at h
  refine g_getsT (pc := 0) hX (gSF hX).2.2.2.1 (by decide) ls_Pa_100 d_Pa_rest_0 ?_
  refine g_aload_n (pc := 3) hX d_Pa_rest_3 rfl 0 rfl ?_
  obtain ⟨f1, h⟩ := h
  refine g_getR (pc := 4) hX fl_Pa_12 rfl f1 d_Pa_rest_4 ?_
  obtain ⟨f2, h⟩ := h
  refine g_getR (pc := 7) hX fl_Pa_86 rfl f2 d_Pa_rest_7 ?_
  obtain ⟨f3, h⟩ := h
  refine g_ordinal (pc := 10) (C := "BasicMachine$Statement") (d := "LBasicMachine$Statement;") (nm := en1000) (b := 1000) hX hR (by decide) ⟨f3.1, by have h9 := f3; show _ - 1000 < 17; omega⟩ (fun _ _ _ h9 => h9.1) lk_Pa_106 so_Statement so_Statementb (by decide) (cat_sum _ (Nat.le_of_ble_eq_true rfl)) d_Pa_rest_10 ?_
  obtain ⟨f4, h⟩ := h
  refine g_tabld (pc := 13) hX (gSF hX).2.2.2.1 (by decide) f4 d_Pa_rest_13 ?_
  by_cases q0 : (tb1300.getD (Int32.toNatClampNeg (nI ((gR A (gR A o 0) 2) - 1000))) 0) = 1
  · have h := h.1 q0
    refine g_tabin (pc := 14) (tgt := 84) (off := 70) hX (v := 1) q0 d_Pa_rest_14 (by decide) (by decide) (by decide +kernel) (by decide) ?_
    refine g_aload_n (pc := 84) hX d_Pa_rest_84 rfl 0 rfl ?_
    refine g_callV_Z (pc := 85) hX hR f1 cf2 rfl lk_Pa_109 mf_Pa_target (c_Pa_target _ _ _ h) rfl rfl rfl ⟨by decide, by decide⟩ (cat_sum _ (Nat.le_of_ble_eq_true rfl)) d_Pa_rest_85 (fun r6 A5 h => ?_)
    refine g_ifB_eq (pc := 88) (tgt := 111) hX d_Pa_rest_88 (by decide) (fun q => ?_) (fun q => ?_)
    · have h := h.1 q
      refine g_iconst (pc := 111) (v := 0) hX d_Pa_rest_111 (by decide) ?_
      exact g_zret hX hQ false rfl h d_Pa_rest_112
    · have h := h.2 q
      refine g_aload_n (pc := 91) hX d_Pa_rest_91 rfl 0 rfl ?_
      refine g_bipush (pc := 92) (v := 61) hX d_Pa_rest_92 (by decide) ?_
      refine g_callV_Z (pc := 94) hX hR f1 cf2 rfl lk_Pa_68 mf_Pa_skip (c_Pa_skip _ _ _ _ h) rfl rfl rfl ⟨by decide, by decide⟩ (cat_sum _ (Nat.le_of_ble_eq_true rfl)) d_Pa_rest_94 (fun r8 A7 h => ?_)
      refine g_ifB_eq (pc := 97) (tgt := 111) hX d_Pa_rest_97 (by decide) (fun q => ?_) (fun q => ?_)
      · have h := h.1 q
        refine g_iconst (pc := 111) (v := 0) hX d_Pa_rest_111 (by decide) ?_
        exact g_zret hX hQ false rfl h d_Pa_rest_112
      · have h := h.2 q
        refine g_aload_n (pc := 100) hX d_Pa_rest_100 rfl 0 rfl ?_
        refine g_callV_Z (pc := 101) hX hR f1 cf2 rfl lk_Pa_112 mf_Pa_expression (c_Pa_expression _ _ _ h) rfl rfl rfl ⟨by decide, by decide⟩ (cat_sum _ (Nat.le_of_ble_eq_true rfl)) d_Pa_rest_101 (fun r10 A9 h => ?_)
        refine g_ifB_eq (pc := 104) (tgt := 111) hX d_Pa_rest_104 (by decide) (fun q => ?_) (fun q => ?_)
        · have h := h.1 q
          refine g_iconst (pc := 111) (v := 0) hX d_Pa_rest_111 (by decide) ?_
          exact g_zret hX hQ false rfl h d_Pa_rest_112
        · have h := h.2 q
          refine g_iconst (pc := 107) (v := 1) hX d_Pa_rest_107 (by decide) ?_
          refine g_goto (pc := 108) (tgt := 112) hX d_Pa_rest_108 (by decide) ?_
          exact g_zret hX hQ true rfl h d_Pa_rest_112
  by_cases q1 : (tb1300.getD (Int32.toNatClampNeg (nI ((gR A (gR A o 0) 2) - 1000))) 0) = 2
  · have h := h.2.1 q1
    refine g_tabin (pc := 14) (tgt := 113) (off := 99) hX (v := 2) q1 d_Pa_rest_14 (by decide) (by decide) (by decide +kernel) (by decide) ?_
    refine g_aload_n (pc := 113) hX d_Pa_rest_113 rfl 0 rfl ?_
    refine g_callV_Z (pc := 114) hX hR f1 cf2 rfl lk_Pa_112 mf_Pa_expression (c_Pa_expression _ _ _ h) rfl rfl rfl ⟨by decide, by decide⟩ (cat_sum _ (Nat.le_of_ble_eq_true rfl)) d_Pa_rest_114 (fun r12 A11 h => ?_)
    exact g_zret hX hQ r12 rfl h d_Pa_rest_117
  by_cases q2 : (tb1300.getD (Int32.toNatClampNeg (nI ((gR A (gR A o 0) 2) - 1000))) 0) = 3
  · have h := h.2.2.1 q2
    refine g_tabin (pc := 14) (tgt := 118) (off := 104) hX (v := 3) q2 d_Pa_rest_14 (by decide) (by decide) (by decide +kernel) (by decide) ?_
    refine g_aload_n (pc := 118) hX d_Pa_rest_118 rfl 0 rfl ?_
    refine g_callV_Z (pc := 119) hX hR f1 cf2 rfl lk_Pa_112 mf_Pa_expression (c_Pa_expression _ _ _ h) rfl rfl rfl ⟨by decide, by decide⟩ (cat_sum _ (Nat.le_of_ble_eq_true rfl)) d_Pa_rest_119 (fun r14 A13 h => ?_)
    refine g_ifB_eq (pc := 122) (tgt := 159) hX d_Pa_rest_122 (by decide) (fun q => ?_) (fun q => ?_)
    · have h := h.1 q
      refine g_iconst (pc := 159) (v := 0) hX d_Pa_rest_159 (by decide) ?_
      exact g_zret hX hQ false rfl h d_Pa_rest_160
    · have h := h.2 q
      refine g_aload_n (pc := 125) hX d_Pa_rest_125 rfl 0 rfl ?_
      refine g_callV_Z (pc := 126) hX hR f1 cf2 rfl lk_Pa_115 mf_Pa_relation (c_Pa_relation _ _ _ h) rfl rfl rfl ⟨by decide, by decide⟩ (cat_sum _ (Nat.le_of_ble_eq_true rfl)) d_Pa_rest_126 (fun r16 A15 h => ?_)
      refine g_ifB_eq (pc := 129) (tgt := 159) hX d_Pa_rest_129 (by decide) (fun q => ?_) (fun q => ?_)
      · have h := h.1 q
        refine g_iconst (pc := 159) (v := 0) hX d_Pa_rest_159 (by decide) ?_
        exact g_zret hX hQ false rfl h d_Pa_rest_160
      · have h := h.2 q
        refine g_aload_n (pc := 132) hX d_Pa_rest_132 rfl 0 rfl ?_
        refine g_callV_Z (pc := 133) hX hR f1 cf2 rfl lk_Pa_112 mf_Pa_expression (c_Pa_expression _ _ _ h) rfl rfl rfl ⟨by decide, by decide⟩ (cat_sum _ (Nat.le_of_ble_eq_true rfl)) d_Pa_rest_133 (fun r18 A17 h => ?_)
        refine g_ifB_eq (pc := 136) (tgt := 159) hX d_Pa_rest_136 (by decide) (fun q => ?_) (fun q => ?_)
        · have h := h.1 q
          refine g_iconst (pc := 159) (v := 0) hX d_Pa_rest_159 (by decide) ?_
          exact g_zret hX hQ false rfl h d_Pa_rest_160
        · have h := h.2 q
          refine g_aload_n (pc := 139) hX d_Pa_rest_139 rfl 0 rfl ?_
          refine g_ldcS (pc := 140) (i := 6) hX (List.mem_of_getElem? (i := 6) rfl) rfl d_Pa_rest_140 ?_
          refine g_callV_Z (pc := 142) hX hR f1 cf2 rfl lk_Pa_120 mf_Pa_word (c_Pa_word _ _ _ _ h) rfl rfl rfl ⟨by decide, by decide⟩ (cat_sum _ (Nat.le_of_ble_eq_true rfl)) d_Pa_rest_142 (fun r20 A19 h => ?_)
          refine g_ifB_eq (pc := 145) (tgt := 159) hX d_Pa_rest_145 (by decide) (fun q => ?_) (fun q => ?_)
          · have h := h.1 q
            refine g_iconst (pc := 159) (v := 0) hX d_Pa_rest_159 (by decide) ?_
            exact g_zret hX hQ false rfl h d_Pa_rest_160
          · have h := h.2 q
            refine g_aload_n (pc := 148) hX d_Pa_rest_148 rfl 0 rfl ?_
            refine g_callV_Z (pc := 149) hX hR f1 cf2 rfl lk_Pa_123 mf_Pa_jump (c_Pa_jump _ _ _ h) rfl rfl rfl ⟨by decide, by decide⟩ (cat_sum _ (Nat.le_of_ble_eq_true rfl)) d_Pa_rest_149 (fun r22 A21 h => ?_)
            refine g_ifB_eq (pc := 152) (tgt := 159) hX d_Pa_rest_152 (by decide) (fun q => ?_) (fun q => ?_)
            · have h := h.1 q
              refine g_iconst (pc := 159) (v := 0) hX d_Pa_rest_159 (by decide) ?_
              exact g_zret hX hQ false rfl h d_Pa_rest_160
            · have h := h.2 q
              refine g_iconst (pc := 155) (v := 1) hX d_Pa_rest_155 (by decide) ?_
              refine g_goto (pc := 156) (tgt := 160) hX d_Pa_rest_156 (by decide) ?_
              exact g_zret hX hQ true rfl h d_Pa_rest_160
  by_cases q3 : (tb1300.getD (Int32.toNatClampNeg (nI ((gR A (gR A o 0) 2) - 1000))) 0) = 4
  · have h := h.2.2.2.1 q3
    refine g_tabin (pc := 14) (tgt := 161) (off := 147) hX (v := 4) q3 d_Pa_rest_14 (by decide) (by decide) (by decide +kernel) (by decide) ?_
    refine g_aload_n (pc := 161) hX d_Pa_rest_161 rfl 0 rfl ?_
    refine g_callV_Z (pc := 162) hX hR f1 cf2 rfl lk_Pa_123 mf_Pa_jump (c_Pa_jump _ _ _ h) rfl rfl rfl ⟨by decide, by decide⟩ (cat_sum _ (Nat.le_of_ble_eq_true rfl)) d_Pa_rest_162 (fun r24 A23 h => ?_)
    exact g_zret hX hQ r24 rfl h d_Pa_rest_165
  by_cases q4 : (tb1300.getD (Int32.toNatClampNeg (nI ((gR A (gR A o 0) 2) - 1000))) 0) = 5
  · have h := h.2.2.2.2.1 q4
    refine g_tabin (pc := 14) (tgt := 166) (off := 152) hX (v := 5) q4 d_Pa_rest_14 (by decide) (by decide) (by decide +kernel) (by decide) ?_
    refine g_aload_n (pc := 166) hX d_Pa_rest_166 rfl 0 rfl ?_
    refine g_callV_Z (pc := 167) hX hR f1 cf2 rfl lk_Pa_112 mf_Pa_expression (c_Pa_expression _ _ _ h) rfl rfl rfl ⟨by decide, by decide⟩ (cat_sum _ (Nat.le_of_ble_eq_true rfl)) d_Pa_rest_167 (fun r26 A25 h => ?_)
    refine g_ifB_eq (pc := 170) (tgt := 193) hX d_Pa_rest_170 (by decide) (fun q => ?_) (fun q => ?_)
    · have h := h.1 q
      refine g_iconst (pc := 193) (v := 0) hX d_Pa_rest_193 (by decide) ?_
      exact g_zret hX hQ false rfl h d_Pa_rest_194
    · have h := h.2 q
      refine g_aload_n (pc := 173) hX d_Pa_rest_173 rfl 0 rfl ?_
      refine g_ldcS (pc := 174) (i := 7) hX (List.mem_of_getElem? (i := 7) rfl) rfl d_Pa_rest_174 ?_
      refine g_callV_Z (pc := 176) hX hR f1 cf2 rfl lk_Pa_120 mf_Pa_word (c_Pa_word _ _ _ _ h) rfl rfl rfl ⟨by decide, by decide⟩ (cat_sum _ (Nat.le_of_ble_eq_true rfl)) d_Pa_rest_176 (fun r28 A27 h => ?_)
      refine g_ifB_eq (pc := 179) (tgt := 193) hX d_Pa_rest_179 (by decide) (fun q => ?_) (fun q => ?_)
      · have h := h.1 q
        refine g_iconst (pc := 193) (v := 0) hX d_Pa_rest_193 (by decide) ?_
        exact g_zret hX hQ false rfl h d_Pa_rest_194
      · have h := h.2 q
        refine g_aload_n (pc := 182) hX d_Pa_rest_182 rfl 0 rfl ?_
        refine g_callV_Z (pc := 183) hX hR f1 cf2 rfl lk_Pa_128 mf_Pa_jumps (c_Pa_jumps _ _ _ h) rfl rfl rfl ⟨by decide, by decide⟩ (cat_sum _ (Nat.le_of_ble_eq_true rfl)) d_Pa_rest_183 (fun r30 A29 h => ?_)
        refine g_ifB_eq (pc := 186) (tgt := 193) hX d_Pa_rest_186 (by decide) (fun q => ?_) (fun q => ?_)
        · have h := h.1 q
          refine g_iconst (pc := 193) (v := 0) hX d_Pa_rest_193 (by decide) ?_
          exact g_zret hX hQ false rfl h d_Pa_rest_194
        · have h := h.2 q
          refine g_iconst (pc := 189) (v := 1) hX d_Pa_rest_189 (by decide) ?_
          refine g_goto (pc := 190) (tgt := 194) hX d_Pa_rest_190 (by decide) ?_
          exact g_zret hX hQ true rfl h d_Pa_rest_194
  by_cases q5 : (tb1300.getD (Int32.toNatClampNeg (nI ((gR A (gR A o 0) 2) - 1000))) 0) = 6
  · have h := h.2.2.2.2.2.1 q5
    refine g_tabin (pc := 14) (tgt := 195) (off := 181) hX (v := 6) q5 d_Pa_rest_14 (by decide) (by decide) (by decide +kernel) (by decide) ?_
    refine g_aload_n (pc := 195) hX d_Pa_rest_195 rfl 0 rfl ?_
    refine g_callV_Z (pc := 196) hX hR f1 cf2 rfl lk_Pa_123 mf_Pa_jump (c_Pa_jump _ _ _ h) rfl rfl rfl ⟨by decide, by decide⟩ (cat_sum _ (Nat.le_of_ble_eq_true rfl)) d_Pa_rest_196 (fun r32 A31 h => ?_)
    exact g_zret hX hQ r32 rfl h d_Pa_rest_199
  by_cases q6 : (tb1300.getD (Int32.toNatClampNeg (nI ((gR A (gR A o 0) 2) - 1000))) 0) = 7
  · have h := h.2.2.2.2.2.2.1 q6
    refine g_tabin (pc := 14) (tgt := 200) (off := 186) hX (v := 7) q6 d_Pa_rest_14 (by decide) (by decide) (by decide +kernel) (by decide) ?_
    refine g_aload_n (pc := 200) hX d_Pa_rest_200 rfl 0 rfl ?_
    refine g_callV_Z (pc := 201) hX hR f1 cf2 rfl lk_Pa_131 mf_Pa_simple (c_Pa_simple _ _ _ h) rfl rfl rfl ⟨by decide, by decide⟩ (cat_sum _ (Nat.le_of_ble_eq_true rfl)) d_Pa_rest_201 (fun r34 A33 h => ?_)
    refine g_ifB_eq (pc := 204) (tgt := 250) hX d_Pa_rest_204 (by decide) (fun q => ?_) (fun q => ?_)
    · have h := h.1 q
      refine g_iconst (pc := 250) (v := 0) hX d_Pa_rest_250 (by decide) ?_
      exact g_zret hX hQ false rfl h d_Pa_rest_251
    · have h := h.2 q
      refine g_aload_n (pc := 207) hX d_Pa_rest_207 rfl 0 rfl ?_
      refine g_bipush (pc := 208) (v := 61) hX d_Pa_rest_208 (by decide) ?_
      refine g_callV_Z (pc := 210) hX hR f1 cf2 rfl lk_Pa_68 mf_Pa_skip (c_Pa_skip _ _ _ _ h) rfl rfl rfl ⟨by decide, by decide⟩ (cat_sum _ (Nat.le_of_ble_eq_true rfl)) d_Pa_rest_210 (fun r36 A35 h => ?_)
      refine g_ifB_eq (pc := 213) (tgt := 250) hX d_Pa_rest_213 (by decide) (fun q => ?_) (fun q => ?_)
      · have h := h.1 q
        refine g_iconst (pc := 250) (v := 0) hX d_Pa_rest_250 (by decide) ?_
        exact g_zret hX hQ false rfl h d_Pa_rest_251
      · have h := h.2 q
        refine g_aload_n (pc := 216) hX d_Pa_rest_216 rfl 0 rfl ?_
        refine g_callV_Z (pc := 217) hX hR f1 cf2 rfl lk_Pa_112 mf_Pa_expression (c_Pa_expression _ _ _ h) rfl rfl rfl ⟨by decide, by decide⟩ (cat_sum _ (Nat.le_of_ble_eq_true rfl)) d_Pa_rest_217 (fun r38 A37 h => ?_)
        refine g_ifB_eq (pc := 220) (tgt := 250) hX d_Pa_rest_220 (by decide) (fun q => ?_) (fun q => ?_)
        · have h := h.1 q
          refine g_iconst (pc := 250) (v := 0) hX d_Pa_rest_250 (by decide) ?_
          exact g_zret hX hQ false rfl h d_Pa_rest_251
        · have h := h.2 q
          refine g_aload_n (pc := 223) hX d_Pa_rest_223 rfl 0 rfl ?_
          refine g_ldcS (pc := 224) (i := 8) hX (List.mem_of_getElem? (i := 8) rfl) rfl d_Pa_rest_224 ?_
          refine g_callV_Z (pc := 226) hX hR f1 cf2 rfl lk_Pa_120 mf_Pa_word (c_Pa_word _ _ _ _ h) rfl rfl rfl ⟨by decide, by decide⟩ (cat_sum _ (Nat.le_of_ble_eq_true rfl)) d_Pa_rest_226 (fun r40 A39 h => ?_)
          refine g_ifB_eq (pc := 229) (tgt := 250) hX d_Pa_rest_229 (by decide) (fun q => ?_) (fun q => ?_)
          · have h := h.1 q
            refine g_iconst (pc := 250) (v := 0) hX d_Pa_rest_250 (by decide) ?_
            exact g_zret hX hQ false rfl h d_Pa_rest_251
          · have h := h.2 q
            refine g_aload_n (pc := 232) hX d_Pa_rest_232 rfl 0 rfl ?_
            refine g_callV_Z (pc := 233) hX hR f1 cf2 rfl lk_Pa_112 mf_Pa_expression (c_Pa_expression _ _ _ h) rfl rfl rfl ⟨by decide, by decide⟩ (cat_sum _ (Nat.le_of_ble_eq_true rfl)) d_Pa_rest_233 (fun r42 A41 h => ?_)
            refine g_ifB_eq (pc := 236) (tgt := 250) hX d_Pa_rest_236 (by decide) (fun q => ?_) (fun q => ?_)
            · have h := h.1 q
              refine g_iconst (pc := 250) (v := 0) hX d_Pa_rest_250 (by decide) ?_
              exact g_zret hX hQ false rfl h d_Pa_rest_251
            · have h := h.2 q
              refine g_aload_n (pc := 239) hX d_Pa_rest_239 rfl 0 rfl ?_
              refine g_callV_Z (pc := 240) hX hR f1 cf2 rfl lk_Pa_136 mf_Pa_growth (c_Pa_growth _ _ _ h) rfl rfl rfl ⟨by decide, by decide⟩ (cat_sum _ (Nat.le_of_ble_eq_true rfl)) d_Pa_rest_240 (fun r44 A43 h => ?_)
              refine g_ifB_eq (pc := 243) (tgt := 250) hX d_Pa_rest_243 (by decide) (fun q => ?_) (fun q => ?_)
              · have h := h.1 q
                refine g_iconst (pc := 250) (v := 0) hX d_Pa_rest_250 (by decide) ?_
                exact g_zret hX hQ false rfl h d_Pa_rest_251
              · have h := h.2 q
                refine g_iconst (pc := 246) (v := 1) hX d_Pa_rest_246 (by decide) ?_
                refine g_goto (pc := 247) (tgt := 251) hX d_Pa_rest_247 (by decide) ?_
                exact g_zret hX hQ true rfl h d_Pa_rest_251
  by_cases q7 : (tb1300.getD (Int32.toNatClampNeg (nI ((gR A (gR A o 0) 2) - 1000))) 0) = 8
  · have h := h.2.2.2.2.2.2.2.1 q7
    refine g_tabin (pc := 14) (tgt := 252) (off := 238) hX (v := 8) q7 d_Pa_rest_14 (by decide) (by decide) (by decide +kernel) (by decide) ?_
    refine g_aload_n (pc := 252) hX d_Pa_rest_252 rfl 0 rfl ?_
    refine g_callV_Z (pc := 253) hX hR f1 cf2 rfl lk_Pa_131 mf_Pa_simple (c_Pa_simple _ _ _ h) rfl rfl rfl ⟨by decide, by decide⟩ (cat_sum _ (Nat.le_of_ble_eq_true rfl)) d_Pa_rest_253 (fun r46 A45 h => ?_)
    exact g_zret hX hQ r46 rfl h d_Pa_rest_256
  by_cases q8 : (tb1300.getD (Int32.toNatClampNeg (nI ((gR A (gR A o 0) 2) - 1000))) 0) = 9
  · have h := h.2.2.2.2.2.2.2.2.1 q8
    refine g_tabin (pc := 14) (tgt := 257) (off := 243) hX (v := 9) q8 d_Pa_rest_14 (by decide) (by decide) (by decide +kernel) (by decide) ?_
    refine g_aload_n (pc := 257) hX d_Pa_rest_257 rfl 0 rfl ?_
    refine g_callV_Z (pc := 258) hX hR f1 cf2 rfl lk_Pa_109 mf_Pa_target (c_Pa_target _ _ _ h) rfl rfl rfl ⟨by decide, by decide⟩ (cat_sum _ (Nat.le_of_ble_eq_true rfl)) d_Pa_rest_258 (fun r48 A47 h => ?_)
    exact g_zret hX hQ r48 rfl h d_Pa_rest_261
  by_cases q9 : (tb1300.getD (Int32.toNatClampNeg (nI ((gR A (gR A o 0) 2) - 1000))) 0) = 10
  · have h := h.2.2.2.2.2.2.2.2.2.1 q9
    refine g_tabin (pc := 14) (tgt := 262) (off := 248) hX (v := 10) q9 d_Pa_rest_14 (by decide) (by decide) (by decide +kernel) (by decide) ?_
    refine g_aload_n (pc := 262) hX d_Pa_rest_262 rfl 0 rfl ?_
    refine g_callV_Z (pc := 263) hX hR f1 cf2 rfl lk_Pa_139 mf_Pa_constants (c_Pa_constants _ _ _ h) rfl rfl rfl ⟨by decide, by decide⟩ (cat_sum _ (Nat.le_of_ble_eq_true rfl)) d_Pa_rest_263 (fun r50 A49 h => ?_)
    exact g_zret hX hQ r50 rfl h d_Pa_rest_266
  by_cases q10 : (tb1300.getD (Int32.toNatClampNeg (nI ((gR A (gR A o 0) 2) - 1000))) 0) = 11
  · have h := h.2.2.2.2.2.2.2.2.2.2.1 q10
    refine g_tabin (pc := 14) (tgt := 267) (off := 253) hX (v := 11) q10 d_Pa_rest_14 (by decide) (by decide) (by decide +kernel) (by decide) ?_
    refine g_aload_n (pc := 267) hX d_Pa_rest_267 rfl 0 rfl ?_
    refine g_callV_Z (pc := 268) hX hR f1 cf2 rfl lk_Pa_142 mf_Pa_matrix (c_Pa_matrix _ _ _ h) rfl rfl rfl ⟨by decide, by decide⟩ (cat_sum _ (Nat.le_of_ble_eq_true rfl)) d_Pa_rest_268 (fun r52 A51 h => ?_)
    refine g_ifB_eq (pc := 271) (tgt := 319) hX d_Pa_rest_271 (by decide) (fun q => ?_) (fun q => ?_)
    · have h := h.1 q
      refine g_iconst (pc := 319) (v := 0) hX d_Pa_rest_319 (by decide) ?_
      exact g_zret hX hQ false rfl h d_Pa_rest_320
    · have h := h.2 q
      refine g_aload_n (pc := 274) hX d_Pa_rest_274 rfl 0 rfl ?_
      refine g_bipush (pc := 275) (v := 40) hX d_Pa_rest_275 (by decide) ?_
      refine g_callV_Z (pc := 277) hX hR f1 cf2 rfl lk_Pa_68 mf_Pa_skip (c_Pa_skip _ _ _ _ h) rfl rfl rfl ⟨by decide, by decide⟩ (cat_sum _ (Nat.le_of_ble_eq_true rfl)) d_Pa_rest_277 (fun r54 A53 h => ?_)
      refine g_ifB_eq (pc := 280) (tgt := 319) hX d_Pa_rest_280 (by decide) (fun q => ?_) (fun q => ?_)
      · have h := h.1 q
        refine g_iconst (pc := 319) (v := 0) hX d_Pa_rest_319 (by decide) ?_
        exact g_zret hX hQ false rfl h d_Pa_rest_320
      · have h := h.2 q
        refine g_aload_n (pc := 283) hX d_Pa_rest_283 rfl 0 rfl ?_
        refine g_callV_Z (pc := 284) hX hR f1 cf2 rfl lk_Pa_145 mf_Pa_extent (c_Pa_extent _ _ _ h) rfl rfl rfl ⟨by decide, by decide⟩ (cat_sum _ (Nat.le_of_ble_eq_true rfl)) d_Pa_rest_284 (fun r56 A55 h => ?_)
        refine g_ifB_eq (pc := 287) (tgt := 319) hX d_Pa_rest_287 (by decide) (fun q => ?_) (fun q => ?_)
        · have h := h.1 q
          refine g_iconst (pc := 319) (v := 0) hX d_Pa_rest_319 (by decide) ?_
          exact g_zret hX hQ false rfl h d_Pa_rest_320
        · have h := h.2 q
          refine g_aload_n (pc := 290) hX d_Pa_rest_290 rfl 0 rfl ?_
          refine g_bipush (pc := 291) (v := 44) hX d_Pa_rest_291 (by decide) ?_
          refine g_callV_Z (pc := 293) hX hR f1 cf2 rfl lk_Pa_68 mf_Pa_skip (c_Pa_skip _ _ _ _ h) rfl rfl rfl ⟨by decide, by decide⟩ (cat_sum _ (Nat.le_of_ble_eq_true rfl)) d_Pa_rest_293 (fun r58 A57 h => ?_)
          refine g_ifB_eq (pc := 296) (tgt := 319) hX d_Pa_rest_296 (by decide) (fun q => ?_) (fun q => ?_)
          · have h := h.1 q
            refine g_iconst (pc := 319) (v := 0) hX d_Pa_rest_319 (by decide) ?_
            exact g_zret hX hQ false rfl h d_Pa_rest_320
          · have h := h.2 q
            refine g_aload_n (pc := 299) hX d_Pa_rest_299 rfl 0 rfl ?_
            refine g_callV_Z (pc := 300) hX hR f1 cf2 rfl lk_Pa_145 mf_Pa_extent (c_Pa_extent _ _ _ h) rfl rfl rfl ⟨by decide, by decide⟩ (cat_sum _ (Nat.le_of_ble_eq_true rfl)) d_Pa_rest_300 (fun r60 A59 h => ?_)
            refine g_ifB_eq (pc := 303) (tgt := 319) hX d_Pa_rest_303 (by decide) (fun q => ?_) (fun q => ?_)
            · have h := h.1 q
              refine g_iconst (pc := 319) (v := 0) hX d_Pa_rest_319 (by decide) ?_
              exact g_zret hX hQ false rfl h d_Pa_rest_320
            · have h := h.2 q
              refine g_aload_n (pc := 306) hX d_Pa_rest_306 rfl 0 rfl ?_
              refine g_bipush (pc := 307) (v := 41) hX d_Pa_rest_307 (by decide) ?_
              refine g_callV_Z (pc := 309) hX hR f1 cf2 rfl lk_Pa_68 mf_Pa_skip (c_Pa_skip _ _ _ _ h) rfl rfl rfl ⟨by decide, by decide⟩ (cat_sum _ (Nat.le_of_ble_eq_true rfl)) d_Pa_rest_309 (fun r62 A61 h => ?_)
              refine g_ifB_eq (pc := 312) (tgt := 319) hX d_Pa_rest_312 (by decide) (fun q => ?_) (fun q => ?_)
              · have h := h.1 q
                refine g_iconst (pc := 319) (v := 0) hX d_Pa_rest_319 (by decide) ?_
                exact g_zret hX hQ false rfl h d_Pa_rest_320
              · have h := h.2 q
                refine g_iconst (pc := 315) (v := 1) hX d_Pa_rest_315 (by decide) ?_
                refine g_goto (pc := 316) (tgt := 320) hX d_Pa_rest_316 (by decide) ?_
                exact g_zret hX hQ true rfl h d_Pa_rest_320
  by_cases q11 : (tb1300.getD (Int32.toNatClampNeg (nI ((gR A (gR A o 0) 2) - 1000))) 0) = 12
  · have h := h.2.2.2.2.2.2.2.2.2.2.2.1 q11
    refine g_tabin (pc := 14) (tgt := 321) (off := 307) hX (v := 12) q11 d_Pa_rest_14 (by decide) (by decide) (by decide +kernel) (by decide) ?_
    refine g_aload_n (pc := 321) hX d_Pa_rest_321 rfl 0 rfl ?_
    refine g_callV_Z (pc := 322) hX hR f1 cf2 rfl lk_Pa_148 mf_Pa_function (c_Pa_function _ _ _ h) rfl rfl rfl ⟨by decide, by decide⟩ (cat_sum _ (Nat.le_of_ble_eq_true rfl)) d_Pa_rest_322 (fun r64 A63 h => ?_)
    refine g_ifB_eq (pc := 325) (tgt := 373) hX d_Pa_rest_325 (by decide) (fun q => ?_) (fun q => ?_)
    · have h := h.1 q
      refine g_iconst (pc := 373) (v := 0) hX d_Pa_rest_373 (by decide) ?_
      exact g_zret hX hQ false rfl h d_Pa_rest_374
    · have h := h.2 q
      refine g_aload_n (pc := 328) hX d_Pa_rest_328 rfl 0 rfl ?_
      refine g_bipush (pc := 329) (v := 40) hX d_Pa_rest_329 (by decide) ?_
      refine g_callV_Z (pc := 331) hX hR f1 cf2 rfl lk_Pa_68 mf_Pa_skip (c_Pa_skip _ _ _ _ h) rfl rfl rfl ⟨by decide, by decide⟩ (cat_sum _ (Nat.le_of_ble_eq_true rfl)) d_Pa_rest_331 (fun r66 A65 h => ?_)
      refine g_ifB_eq (pc := 334) (tgt := 373) hX d_Pa_rest_334 (by decide) (fun q => ?_) (fun q => ?_)
      · have h := h.1 q
        refine g_iconst (pc := 373) (v := 0) hX d_Pa_rest_373 (by decide) ?_
        exact g_zret hX hQ false rfl h d_Pa_rest_374
      · have h := h.2 q
        refine g_aload_n (pc := 337) hX d_Pa_rest_337 rfl 0 rfl ?_
        refine g_callV_Z (pc := 338) hX hR f1 cf2 rfl lk_Pa_131 mf_Pa_simple (c_Pa_simple _ _ _ h) rfl rfl rfl ⟨by decide, by decide⟩ (cat_sum _ (Nat.le_of_ble_eq_true rfl)) d_Pa_rest_338 (fun r68 A67 h => ?_)
        refine g_ifB_eq (pc := 341) (tgt := 373) hX d_Pa_rest_341 (by decide) (fun q => ?_) (fun q => ?_)
        · have h := h.1 q
          refine g_iconst (pc := 373) (v := 0) hX d_Pa_rest_373 (by decide) ?_
          exact g_zret hX hQ false rfl h d_Pa_rest_374
        · have h := h.2 q
          refine g_aload_n (pc := 344) hX d_Pa_rest_344 rfl 0 rfl ?_
          refine g_bipush (pc := 345) (v := 41) hX d_Pa_rest_345 (by decide) ?_
          refine g_callV_Z (pc := 347) hX hR f1 cf2 rfl lk_Pa_68 mf_Pa_skip (c_Pa_skip _ _ _ _ h) rfl rfl rfl ⟨by decide, by decide⟩ (cat_sum _ (Nat.le_of_ble_eq_true rfl)) d_Pa_rest_347 (fun r70 A69 h => ?_)
          refine g_ifB_eq (pc := 350) (tgt := 373) hX d_Pa_rest_350 (by decide) (fun q => ?_) (fun q => ?_)
          · have h := h.1 q
            refine g_iconst (pc := 373) (v := 0) hX d_Pa_rest_373 (by decide) ?_
            exact g_zret hX hQ false rfl h d_Pa_rest_374
          · have h := h.2 q
            refine g_aload_n (pc := 353) hX d_Pa_rest_353 rfl 0 rfl ?_
            refine g_bipush (pc := 354) (v := 61) hX d_Pa_rest_354 (by decide) ?_
            refine g_callV_Z (pc := 356) hX hR f1 cf2 rfl lk_Pa_68 mf_Pa_skip (c_Pa_skip _ _ _ _ h) rfl rfl rfl ⟨by decide, by decide⟩ (cat_sum _ (Nat.le_of_ble_eq_true rfl)) d_Pa_rest_356 (fun r72 A71 h => ?_)
            refine g_ifB_eq (pc := 359) (tgt := 373) hX d_Pa_rest_359 (by decide) (fun q => ?_) (fun q => ?_)
            · have h := h.1 q
              refine g_iconst (pc := 373) (v := 0) hX d_Pa_rest_373 (by decide) ?_
              exact g_zret hX hQ false rfl h d_Pa_rest_374
            · have h := h.2 q
              refine g_aload_n (pc := 362) hX d_Pa_rest_362 rfl 0 rfl ?_
              refine g_callV_Z (pc := 363) hX hR f1 cf2 rfl lk_Pa_112 mf_Pa_expression (c_Pa_expression _ _ _ h) rfl rfl rfl ⟨by decide, by decide⟩ (cat_sum _ (Nat.le_of_ble_eq_true rfl)) d_Pa_rest_363 (fun r74 A73 h => ?_)
              refine g_ifB_eq (pc := 366) (tgt := 373) hX d_Pa_rest_366 (by decide) (fun q => ?_) (fun q => ?_)
              · have h := h.1 q
                refine g_iconst (pc := 373) (v := 0) hX d_Pa_rest_373 (by decide) ?_
                exact g_zret hX hQ false rfl h d_Pa_rest_374
              · have h := h.2 q
                refine g_iconst (pc := 369) (v := 1) hX d_Pa_rest_369 (by decide) ?_
                refine g_goto (pc := 370) (tgt := 374) hX d_Pa_rest_370 (by decide) ?_
                exact g_zret hX hQ true rfl h d_Pa_rest_374
  by_cases q12 : (tb1300.getD (Int32.toNatClampNeg (nI ((gR A (gR A o 0) 2) - 1000))) 0) = 13
  · have h := h.2.2.2.2.2.2.2.2.2.2.2.2.1 q12
    refine g_tabin (pc := 14) (tgt := 375) (off := 361) hX (v := 13) q12 d_Pa_rest_14 (by decide) (by decide) (by decide +kernel) (by decide) ?_
    refine g_aload_n (pc := 375) hX d_Pa_rest_375 rfl 0 rfl ?_
    refine g_callV_Z (pc := 376) hX hR f1 cf2 rfl lk_Pa_142 mf_Pa_matrix (c_Pa_matrix _ _ _ h) rfl rfl rfl ⟨by decide, by decide⟩ (cat_sum _ (Nat.le_of_ble_eq_true rfl)) d_Pa_rest_376 (fun r76 A75 h => ?_)
    refine g_ifB_eq (pc := 379) (tgt := 402) hX d_Pa_rest_379 (by decide) (fun q => ?_) (fun q => ?_)
    · have h := h.1 q
      refine g_iconst (pc := 402) (v := 0) hX d_Pa_rest_402 (by decide) ?_
      exact g_zret hX hQ false rfl h d_Pa_rest_403
    · have h := h.2 q
      refine g_aload_n (pc := 382) hX d_Pa_rest_382 rfl 0 rfl ?_
      refine g_bipush (pc := 383) (v := 61) hX d_Pa_rest_383 (by decide) ?_
      refine g_callV_Z (pc := 385) hX hR f1 cf2 rfl lk_Pa_68 mf_Pa_skip (c_Pa_skip _ _ _ _ h) rfl rfl rfl ⟨by decide, by decide⟩ (cat_sum _ (Nat.le_of_ble_eq_true rfl)) d_Pa_rest_385 (fun r78 A77 h => ?_)
      refine g_ifB_eq (pc := 388) (tgt := 402) hX d_Pa_rest_388 (by decide) (fun q => ?_) (fun q => ?_)
      · have h := h.1 q
        refine g_iconst (pc := 402) (v := 0) hX d_Pa_rest_402 (by decide) ?_
        exact g_zret hX hQ false rfl h d_Pa_rest_403
      · have h := h.2 q
        refine g_aload_n (pc := 391) hX d_Pa_rest_391 rfl 0 rfl ?_
        refine g_callV_Z (pc := 392) hX hR f1 cf2 rfl lk_Pa_151 mf_Pa_source (c_Pa_source _ _ _ h) rfl rfl rfl ⟨by decide, by decide⟩ (cat_sum _ (Nat.le_of_ble_eq_true rfl)) d_Pa_rest_392 (fun r80 A79 h => ?_)
        refine g_ifB_eq (pc := 395) (tgt := 402) hX d_Pa_rest_395 (by decide) (fun q => ?_) (fun q => ?_)
        · have h := h.1 q
          refine g_iconst (pc := 402) (v := 0) hX d_Pa_rest_402 (by decide) ?_
          exact g_zret hX hQ false rfl h d_Pa_rest_403
        · have h := h.2 q
          refine g_iconst (pc := 398) (v := 1) hX d_Pa_rest_398 (by decide) ?_
          refine g_goto (pc := 399) (tgt := 403) hX d_Pa_rest_399 (by decide) ?_
          exact g_zret hX hQ true rfl h d_Pa_rest_403
  by_cases q13 : (tb1300.getD (Int32.toNatClampNeg (nI ((gR A (gR A o 0) 2) - 1000))) 0) = 14
  · have h := h.2.2.2.2.2.2.2.2.2.2.2.2.2.1 q13
    refine g_tabin (pc := 14) (tgt := 404) (off := 390) hX (v := 14) q13 d_Pa_rest_14 (by decide) (by decide) (by decide +kernel) (by decide) ?_
    refine g_aload_n (pc := 404) hX d_Pa_rest_404 rfl 0 rfl ?_
    refine g_callV_Z (pc := 405) hX hR f1 cf2 rfl lk_Pa_154 mf_Pa_anything (c_Pa_anything _ _ _ h) rfl rfl rfl ⟨by decide, by decide⟩ (cat_sum _ (Nat.le_of_ble_eq_true rfl)) d_Pa_rest_405 (fun r82 A81 h => ?_)
    exact g_zret hX hQ r82 rfl h d_Pa_rest_408
  have h := h.2.2.2.2.2.2.2.2.2.2.2.2.2.2 q0 q1 q2 q3 q4 q5 q6 q7 q8 q9 q10 q11 q12 q13
  refine g_tabout (pc := 14) (tgt := 409) hX (vs := [(1 : Int32), (2 : Int32), (3 : Int32), (4 : Int32), (5 : Int32), (6 : Int32), (7 : Int32), (8 : Int32), (9 : Int32), (10 : Int32), (11 : Int32), (12 : Int32), (13 : Int32), (14 : Int32)]) (List.forall_mem_cons.mpr ⟨q0, List.forall_mem_cons.mpr ⟨q1, List.forall_mem_cons.mpr ⟨q2, List.forall_mem_cons.mpr ⟨q3, List.forall_mem_cons.mpr ⟨q4, List.forall_mem_cons.mpr ⟨q5, List.forall_mem_cons.mpr ⟨q6, List.forall_mem_cons.mpr ⟨q7, List.forall_mem_cons.mpr ⟨q8, List.forall_mem_cons.mpr ⟨q9, List.forall_mem_cons.mpr ⟨q10, List.forall_mem_cons.mpr ⟨q11, List.forall_mem_cons.mpr ⟨q12, List.forall_mem_cons.mpr ⟨q13, fun _ h9 => absurd h9 List.not_mem_nil⟩⟩⟩⟩⟩⟩⟩⟩⟩⟩⟩⟩⟩⟩) d_Pa_rest_14 (by decide +kernel) (by decide) ?_
  refine g_iconst (pc := 409) (v := 1) hX d_Pa_rest_409 (by decide) ?_
  exact g_zret hX hQ true rfl h d_Pa_rest_410
def wp_Pa_takeApart_c63 (K : Bool → Mem → Prop) (x0 : Nat) (s0 : Int32) (s1 : Nat) (A : Mem) : Prop := kd s1 = 3 ∧ isB s0 ∧ kd x0 = 2 ∧ kd (gR (sI A s1 1 s0) x0 0) = 3 ∧ ((¬ (gI (sI A s1 1 s0) (gR (sI A s1 1 s0) x0 0) 1) = 0 → K true (sI A s1 1 s0)) ∧ ((gI (sI A s1 1 s0) (gR (sI A s1 1 s0) x0 0) 1) = 0 → wp_Pa_keyword x0 (sI A s1 1 s0) (fun (r13 : Bool) (A12 : Mem) => ((r13 = false → K false A12) ∧ (r13 = true → wp_Pa_rest x0 A12 (fun (r15 : Bool) (A14 : Mem) => ((r15 = false → K false A14) ∧ (r15 = true → ((¬ (gI A14 x0 1) = (gI A14 x0 3) → K false A14) ∧ ((gI A14 x0 1) = (gI A14 x0 3) → K true A14))))))))))
def wp_Pa_takeApart (o : Nat) (p1 : Nat) (p2 : Int32) (A : Mem) (K : Bool → Mem → Prop) : Prop := kd o = 2 ∧ wp_Pa_leaveBlanksOut o p1 p2 A (fun (A1 : Mem) => kd (gR (sI (sI A1 o 1 0) o 4 0) o 0) = 3 ∧ wp_Li_clear (gR (sI (sI A1 o 1 0) o 4 0) o 0) (sI (sI A1 o 1 0) o 4 0) (fun (A3 : Mem) => wp_Pa_lineNumber o A3 (fun (r6 : Bool) (A5 : Mem) => ((r6 = true → kd (gR A5 o 0) = 3 ∧ ((¬ (gI (sI A5 (gR A5 o 0) 0 (gI A5 o 5)) o 1) = (gI (sI A5 (gR A5 o 0) 0 (gI A5 o 5)) o 3) → wp_Pa_takeApart_c63 K o 0 (gR (sI A5 (gR A5 o 0) 0 (gI A5 o 5)) o 0) (sI A5 (gR A5 o 0) 0 (gI A5 o 5))) ∧ ((gI (sI A5 (gR A5 o 0) 0 (gI A5 o 5)) o 1) = (gI (sI A5 (gR A5 o 0) 0 (gI A5 o 5)) o 3) → wp_Pa_takeApart_c63 K o 1 (gR (sI A5 (gR A5 o 0) 0 (gI A5 o 5)) o 0) (sI A5 (gR A5 o 0) 0 (gI A5 o 5))))) ∧ (r6 = false → K false A5)))))
set_option maxRecDepth 100000 in
set_option maxHeartbeats 4000000 in
theorem k_Pa_takeApart_c63 {X : CXT} {E : EVT} {K : Bool → Mem → Prop} (hX : Gd X E "BasicMachine$Parser" prog_10_method_2_code) (hR : Rm X 76 1637) (hN : xnL X = 3) (hQ : QZ X E K) (x0 : Nat) (s0 : Int32) (s1 : Nat) (A : Mem) (h : wp_Pa_takeApart_c63 K x0 s0 s1 A) : G X E A 63 [(0, cr E x0)] [.int (s0), cr E s1] := by
  unfold wp_Pa_takeApart_c63 at h
  obtain ⟨f8, h⟩ := h
  obtain ⟨f9, h⟩ := h
  refine g_putZ (pc := 63) hX f9 fl_Pa_49 rfl rfl rfl f8 d_Pa_takeApart_63 ?_
  refine g_aload_n (pc := 66) hX d_Pa_takeApart_66 rfl 0 rfl ?_
  obtain ⟨f10, h⟩ := h
  refine g_getR (pc := 67) hX fl_Pa_12 rfl f10 d_Pa_takeApart_67 ?_
  obtain ⟨f11, h⟩ := h
  refine g_getI (pc := 70) hX fl_Pa_49 rfl f11 d_Pa_takeApart_70 ?_
  refine g_if_ne (pc := 73) (tgt := 101) hX d_Pa_takeApart_73 (by decide) (fun q => ?_) (fun q => ?_)
  · have h := h.1 q
    refine g_iconst (pc := 101) (v := 1) hX d_Pa_takeApart_101 (by decide) ?_
    refine g_goto (pc := 102) (tgt := 106) hX d_Pa_takeApart_102 (by decide) ?_
    exact g_zret hX hQ true rfl h d_Pa_takeApart_106
  · have h := h.2 q
    refine g_aload_n (pc := 76) hX d_Pa_takeApart_76 rfl 0 rfl ?_
    refine g_callV_Z (pc := 77) hX hR f10 cf2 rfl lk_Pa_53 mf_Pa_keyword (c_Pa_keyword _ _ _ h) rfl rfl rfl ⟨by decide, by decide⟩ (cat_sum _ (Nat.le_of_ble_eq_true rfl)) d_Pa_takeApart_77 (fun r13 A12 h => ?_)
    refine g_ifB_eq (pc := 80) (tgt := 105) hX d_Pa_takeApart_80 (by decide) (fun q => ?_) (fun q => ?_)
    · have h := h.1 q
      refine g_iconst (pc := 105) (v := 0) hX d_Pa_takeApart_105 (by decide) ?_
      exact g_zret hX hQ false rfl h d_Pa_takeApart_106
    · have h := h.2 q
      refine g_aload_n (pc := 83) hX d_Pa_takeApart_83 rfl 0 rfl ?_
      refine g_callV_Z (pc := 84) hX hR f10 cf2 rfl lk_Pa_56 mf_Pa_rest (c_Pa_rest _ _ _ h) rfl rfl rfl ⟨by decide, by decide⟩ (cat_sum _ (Nat.le_of_ble_eq_true rfl)) d_Pa_takeApart_84 (fun r15 A14 h => ?_)
      refine g_ifB_eq (pc := 87) (tgt := 105) hX d_Pa_takeApart_87 (by decide) (fun q => ?_) (fun q => ?_)
      · have h := h.1 q
        refine g_iconst (pc := 105) (v := 0) hX d_Pa_takeApart_105 (by decide) ?_
        exact g_zret hX hQ false rfl h d_Pa_takeApart_106
      · have h := h.2 q
        refine g_aload_n (pc := 90) hX d_Pa_takeApart_90 rfl 0 rfl ?_
        refine g_getI (pc := 91) hX fl_Pa_26 rfl f10 d_Pa_takeApart_91 ?_
        refine g_aload_n (pc := 94) hX d_Pa_takeApart_94 rfl 0 rfl ?_
        refine g_getI (pc := 95) hX fl_Pa_46 rfl f10 d_Pa_takeApart_95 ?_
        refine g_icmp_ne (pc := 98) (tgt := 105) hX d_Pa_takeApart_98 (by decide) (fun q => ?_) (fun q => ?_)
        · have h := h.1 q
          refine g_iconst (pc := 105) (v := 0) hX d_Pa_takeApart_105 (by decide) ?_
          exact g_zret hX hQ false rfl h d_Pa_takeApart_106
        · have h := h.2 q
          refine g_iconst (pc := 101) (v := 1) hX d_Pa_takeApart_101 (by decide) ?_
          refine g_goto (pc := 102) (tgt := 106) hX d_Pa_takeApart_102 (by decide) ?_
          exact g_zret hX hQ true rfl h d_Pa_takeApart_106
set_option maxRecDepth 100000 in
set_option maxHeartbeats 4000000 in
theorem c_Pa_takeApart (o : Nat) (p1 : Nat) (p2 : Int32) (A : Mem) (K : Bool → Mem → Prop) (h : wp_Pa_takeApart o p1 p2 A K) : CtZ y_Pa_takeApart prog_10_method_2_code 3 76 1637 (fun E => [cr E o, cr E p1, .int (p2)]) A K := by
  refine ctZ_of "BasicMachine$Parser" (by decide) rfl (fun E => [(0, cr E o), (1, cr E p1), (2, .int (p2))]) (fun E => by simp [lg_sl, cr_cat, ca_i, ca_l, ca_d]) (fun E => by simp [lv_args, cr_cat, ca_i, ca_l, ca_d]) (fun X E hX hR hN hQ => ?_)
  unfold wp_Pa_takeApart at h
  refine g_aload_n (pc := 0) hX d_Pa_takeApart_0 rfl 0 rfl ?_
  refine g_aload_n (pc := 1) hX d_Pa_takeApart_1 rfl 1 rfl ?_
  refine g_iload_n (pc := 2) hX d_Pa_takeApart_2 rfl 2 rfl ?_
  obtain ⟨f2, h⟩ := h
  refine g_callV_V (pc := 3) hX hR f2 cf2 rfl lk_Pa_22 mf_Pa_leaveBlanksOut (c_Pa_leaveBlanksOut _ _ _ _ _ h) rfl rfl rfl ⟨by decide, by decide⟩ (cat_sum _ (Nat.le_of_ble_eq_true rfl)) d_Pa_takeApart_3 (fun A1 h => ?_)
  refine g_aload_n (pc := 6) hX d_Pa_takeApart_6 rfl 0 rfl ?_
  refine g_iconst (pc := 7) (v := 0) hX d_Pa_takeApart_7 (by decide) ?_
  refine g_putI (pc := 8) hX fl_Pa_26 rfl rfl rfl f2 d_Pa_takeApart_8 ?_
  refine g_aload_n (pc := 11) hX d_Pa_takeApart_11 rfl 0 rfl ?_
  refine g_iconst (pc := 12) (v := 0) hX d_Pa_takeApart_12 (by decide) ?_
  refine g_putI (pc := 13) hX fl_Pa_30 rfl rfl rfl f2 d_Pa_takeApart_13 ?_
  refine g_aload_n (pc := 16) hX d_Pa_takeApart_16 rfl 0 rfl ?_
  refine g_getR (pc := 17) hX fl_Pa_12 rfl f2 d_Pa_takeApart_17 ?_
  obtain ⟨f4, h⟩ := h
  refine g_callV_V (pc := 20) hX hR f4 cf3 rfl lk_Pa_33 mf_Li_clear (c_Li_clear _ _ _ h) rfl rfl rfl ⟨by decide, by decide⟩ (cat_sum _ (Nat.le_of_ble_eq_true rfl)) d_Pa_takeApart_20 (fun A3 h => ?_)
  refine g_aload_n (pc := 23) hX d_Pa_takeApart_23 rfl 0 rfl ?_
  refine g_callV_Z (pc := 24) hX hR f2 cf2 rfl lk_Pa_36 mf_Pa_lineNumber (c_Pa_lineNumber _ _ _ h) rfl rfl rfl ⟨by decide, by decide⟩ (cat_sum _ (Nat.le_of_ble_eq_true rfl)) d_Pa_takeApart_24 (fun r6 A5 h => ?_)
  refine g_ifB_ne (pc := 27) (tgt := 32) hX d_Pa_takeApart_27 (by decide) (fun q => ?_) (fun q => ?_)
  · have h := h.1 q
    refine g_aload_n (pc := 32) hX d_Pa_takeApart_32 rfl 0 rfl ?_
    refine g_getR (pc := 33) hX fl_Pa_12 rfl f2 d_Pa_takeApart_33 ?_
    refine g_aload_n (pc := 36) hX d_Pa_takeApart_36 rfl 0 rfl ?_
    refine g_getI (pc := 37) hX fl_Pa_40 rfl f2 d_Pa_takeApart_37 ?_
    obtain ⟨f7, h⟩ := h
    refine g_putI (pc := 40) hX fl_Pa_43 rfl rfl rfl f7 d_Pa_takeApart_40 ?_
    refine g_aload_n (pc := 43) hX d_Pa_takeApart_43 rfl 0 rfl ?_
    refine g_getR (pc := 44) hX fl_Pa_12 rfl f2 d_Pa_takeApart_44 ?_
    refine g_aload_n (pc := 47) hX d_Pa_takeApart_47 rfl 0 rfl ?_
    refine g_getI (pc := 48) hX fl_Pa_26 rfl f2 d_Pa_takeApart_48 ?_
    refine g_aload_n (pc := 51) hX d_Pa_takeApart_51 rfl 0 rfl ?_
    refine g_getI (pc := 52) hX fl_Pa_46 rfl f2 d_Pa_takeApart_52 ?_
    refine g_icmp_ne (pc := 55) (tgt := 62) hX d_Pa_takeApart_55 (by decide) (fun q => ?_) (fun q => ?_)
    · have h := h.1 q
      refine g_iconst (pc := 62) (v := 0) hX d_Pa_takeApart_62 (by decide) ?_
      refine g_sub [0] rfl ?_
      exact k_Pa_takeApart_c63 hX hR hN hQ _ _ _ _ h
    · have h := h.2 q
      refine g_iconst (pc := 58) (v := 1) hX d_Pa_takeApart_58 (by decide) ?_
      refine g_goto (pc := 59) (tgt := 63) hX d_Pa_takeApart_59 (by decide) ?_
      refine g_sub [0] rfl ?_
      exact k_Pa_takeApart_c63 hX hR hN hQ _ _ _ _ h
  · have h := h.2 q
    refine g_iconst (pc := 30) (v := 0) hX d_Pa_takeApart_30 (by decide) ?_
    exact g_zret hX hQ false rfl h d_Pa_takeApart_31
