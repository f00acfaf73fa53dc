def ld_La_type : List (Nat × Instr × Nat) := [(0, .aload_n 2, 1), (1, .iconst 0, 1), (2, .aload_n 0, 1), (3, .iload_n 1, 1), (4, .invokevirtual 7, 3), (7, .i2l, 1), (8, .lastore, 1), (9, .goto (9), 3), (12, .astore_n 3, 1), (13, .iconst 1, 1), (14, .ireturn, 1), (15, .astore_n 3, 1), (16, .iconst 2, 1), (17, .ireturn, 1), (18, .iconst 0, 1), (19, .ireturn, 1)]
theorem dd_La_type : (ld_La_type).all (dOK method_3_code) = true := by decide +kernel
theorem d_La_type_0 : decode method_3_code 0 = .ok (.aload_n 2, 1) := dd_at dd_La_type 0 rfl
theorem d_La_type_1 : decode method_3_code 1 = .ok (.iconst 0, 1) := dd_at dd_La_type 1 rfl
theorem d_La_type_2 : decode method_3_code 2 = .ok (.aload_n 0, 1) := dd_at dd_La_type 2 rfl
theorem d_La_type_3 : decode method_3_code 3 = .ok (.iload_n 1, 1) := dd_at dd_La_type 3 rfl
theorem d_La_type_4 : decode method_3_code 4 = .ok (.invokevirtual 7, 3) := dd_at dd_La_type 4 rfl
theorem d_La_type_7 : decode method_3_code 7 = .ok (.i2l, 1) := dd_at dd_La_type 5 rfl
theorem d_La_type_8 : decode method_3_code 8 = .ok (.lastore, 1) := dd_at dd_La_type 6 rfl
theorem d_La_type_9 : decode method_3_code 9 = .ok (.goto (9), 3) := dd_at dd_La_type 7 rfl
theorem d_La_type_12 : decode method_3_code 12 = .ok (.astore_n 3, 1) := dd_at dd_La_type 8 rfl
theorem d_La_type_13 : decode method_3_code 13 = .ok (.iconst 1, 1) := dd_at dd_La_type 9 rfl
theorem d_La_type_14 : decode method_3_code 14 = .ok (.ireturn, 1) := dd_at dd_La_type 10 rfl
theorem d_La_type_15 : decode method_3_code 15 = .ok (.astore_n 3, 1) := dd_at dd_La_type 11 rfl
theorem d_La_type_16 : decode method_3_code 16 = .ok (.iconst 2, 1) := dd_at dd_La_type 12 rfl
theorem d_La_type_17 : decode method_3_code 17 = .ok (.ireturn, 1) := dd_at dd_La_type 13 rfl
theorem d_La_type_18 : decode method_3_code 18 = .ok (.iconst 0, 1) := dd_at dd_La_type 14 rfl
theorem d_La_type_19 : decode method_3_code 19 = .ok (.ireturn, 1) := dd_at dd_La_type 15 rfl
def ld_La_enter : List (Nat × Instr × Nat) := [(0, .aload_n 1, 1), (1, .iconst 0, 1), (2, .aload_n 0, 1), (3, .invokevirtual 17, 3), (6, .i2l, 1), (7, .lastore, 1), (8, .goto (12), 3), (11, .astore_n 2, 1), (12, .iconst 1, 1), (13, .ireturn, 1), (14, .astore_n 2, 1), (15, .iconst 2, 1), (16, .ireturn, 1), (17, .astore_n 2, 1), (18, .iconst 3, 1), (19, .ireturn, 1), (20, .iconst 0, 1), (21, .ireturn, 1)]
theorem dd_La_enter : (ld_La_enter).all (dOK method_4_code) = true := by decide +kernel
theorem d_La_enter_0 : decode method_4_code 0 = .ok (.aload_n 1, 1) := dd_at dd_La_enter 0 rfl
theorem d_La_enter_1 : decode method_4_code 1 = .ok (.iconst 0, 1) := dd_at dd_La_enter 1 rfl
theorem d_La_enter_2 : decode method_4_code 2 = .ok (.aload_n 0, 1) := dd_at dd_La_enter 2 rfl
theorem d_La_enter_3 : decode method_4_code 3 = .ok (.invokevirtual 17, 3) := dd_at dd_La_enter 3 rfl
theorem d_La_enter_6 : decode method_4_code 6 = .ok (.i2l, 1) := dd_at dd_La_enter 4 rfl
theorem d_La_enter_7 : decode method_4_code 7 = .ok (.lastore, 1) := dd_at dd_La_enter 5 rfl
theorem d_La_enter_8 : decode method_4_code 8 = .ok (.goto (12), 3) := dd_at dd_La_enter 6 rfl
theorem d_La_enter_11 : decode method_4_code 11 = .ok (.astore_n 2, 1) := dd_at dd_La_enter 7 rfl
theorem d_La_enter_12 : decode method_4_code 12 = .ok (.iconst 1, 1) := dd_at dd_La_enter 8 rfl
theorem d_La_enter_13 : decode method_4_code 13 = .ok (.ireturn, 1) := dd_at dd_La_enter 9 rfl
theorem d_La_enter_14 : decode method_4_code 14 = .ok (.astore_n 2, 1) := dd_at dd_La_enter 10 rfl
theorem d_La_enter_15 : decode method_4_code 15 = .ok (.iconst 2, 1) := dd_at dd_La_enter 11 rfl
theorem d_La_enter_16 : decode method_4_code 16 = .ok (.ireturn, 1) := dd_at dd_La_enter 12 rfl
theorem d_La_enter_17 : decode method_4_code 17 = .ok (.astore_n 2, 1) := dd_at dd_La_enter 13 rfl
theorem d_La_enter_18 : decode method_4_code 18 = .ok (.iconst 3, 1) := dd_at dd_La_enter 14 rfl
theorem d_La_enter_19 : decode method_4_code 19 = .ok (.ireturn, 1) := dd_at dd_La_enter 15 rfl
theorem d_La_enter_20 : decode method_4_code 20 = .ok (.iconst 0, 1) := dd_at dd_La_enter 16 rfl
theorem d_La_enter_21 : decode method_4_code 21 = .ok (.ireturn, 1) := dd_at dd_La_enter 17 rfl
def ld_La_run : List (Nat × Instr × Nat) := [(0, .aload_n 1, 1), (1, .iconst 0, 1), (2, .aload_n 0, 1), (3, .invokevirtual 23, 3), (6, .i2l, 1), (7, .lastore, 1), (8, .goto (22), 3), (11, .astore_n 2, 1), (12, .iconst 1, 1), (13, .ireturn, 1), (14, .astore_n 2, 1), (15, .iconst 2, 1), (16, .ireturn, 1), (17, .astore_n 2, 1), (18, .iconst 3, 1), (19, .ireturn, 1), (20, .astore_n 2, 1), (21, .iconst 4, 1), (22, .ireturn, 1), (23, .astore_n 2, 1), (24, .iconst 5, 1), (25, .ireturn, 1), (26, .astore_n 2, 1), (27, .bipush (6), 2), (29, .ireturn, 1), (30, .iconst 0, 1), (31, .ireturn, 1)]
theorem dd_La_run : (ld_La_run).all (dOK method_5_code) = true := by decide +kernel
theorem d_La_run_0 : decode method_5_code 0 = .ok (.aload_n 1, 1) := dd_at dd_La_run 0 rfl
theorem d_La_run_1 : decode method_5_code 1 = .ok (.iconst 0, 1) := dd_at dd_La_run 1 rfl
theorem d_La_run_2 : decode method_5_code 2 = .ok (.aload_n 0, 1) := dd_at dd_La_run 2 rfl
theorem d_La_run_3 : decode method_5_code 3 = .ok (.invokevirtual 23, 3) := dd_at dd_La_run 3 rfl
theorem d_La_run_6 : decode method_5_code 6 = .ok (.i2l, 1) := dd_at dd_La_run 4 rfl
theorem d_La_run_7 : decode method_5_code 7 = .ok (.lastore, 1) := dd_at dd_La_run 5 rfl
theorem d_La_run_8 : decode method_5_code 8 = .ok (.goto (22), 3) := dd_at dd_La_run 6 rfl
theorem d_La_run_11 : decode method_5_code 11 = .ok (.astore_n 2, 1) := dd_at dd_La_run 7 rfl
theorem d_La_run_12 : decode method_5_code 12 = .ok (.iconst 1, 1) := dd_at dd_La_run 8 rfl
theorem d_La_run_13 : decode method_5_code 13 = .ok (.ireturn, 1) := dd_at dd_La_run 9 rfl
theorem d_La_run_14 : decode method_5_code 14 = .ok (.astore_n 2, 1) := dd_at dd_La_run 10 rfl
theorem d_La_run_15 : decode method_5_code 15 = .ok (.iconst 2, 1) := dd_at dd_La_run 11 rfl
theorem d_La_run_16 : decode method_5_code 16 = .ok (.ireturn, 1) := dd_at dd_La_run 12 rfl
theorem d_La_run_17 : decode method_5_code 17 = .ok (.astore_n 2, 1) := dd_at dd_La_run 13 rfl
theorem d_La_run_18 : decode method_5_code 18 = .ok (.iconst 3, 1) := dd_at dd_La_run 14 rfl
theorem d_La_run_19 : decode method_5_code 19 = .ok (.ireturn, 1) := dd_at dd_La_run 15 rfl
theorem d_La_run_20 : decode method_5_code 20 = .ok (.astore_n 2, 1) := dd_at dd_La_run 16 rfl
theorem d_La_run_21 : decode method_5_code 21 = .ok (.iconst 4, 1) := dd_at dd_La_run 17 rfl
theorem d_La_run_22 : decode method_5_code 22 = .ok (.ireturn, 1) := dd_at dd_La_run 18 rfl
theorem d_La_run_23 : decode method_5_code 23 = .ok (.astore_n 2, 1) := dd_at dd_La_run 19 rfl
theorem d_La_run_24 : decode method_5_code 24 = .ok (.iconst 5, 1) := dd_at dd_La_run 20 rfl
theorem d_La_run_25 : decode method_5_code 25 = .ok (.ireturn, 1) := dd_at dd_La_run 21 rfl
theorem d_La_run_26 : decode method_5_code 26 = .ok (.astore_n 2, 1) := dd_at dd_La_run 22 rfl
theorem d_La_run_27 : decode method_5_code 27 = .ok (.bipush (6), 2) := dd_at dd_La_run 23 rfl
theorem d_La_run_29 : decode method_5_code 29 = .ok (.ireturn, 1) := dd_at dd_La_run 24 rfl
theorem d_La_run_30 : decode method_5_code 30 = .ok (.iconst 0, 1) := dd_at dd_La_run 25 rfl
theorem d_La_run_31 : decode method_5_code 31 = .ok (.ireturn, 1) := dd_at dd_La_run 26 rfl
def ld_La_printed : List (Nat × Instr × Nat) := [(0, .aload_n 2, 1), (1, .iconst 0, 1), (2, .aload_n 0, 1), (3, .iload_n 1, 1), (4, .invokevirtual 32, 3), (7, .dastore, 1), (8, .goto (6), 3), (11, .astore_n 3, 1), (12, .iconst 1, 1), (13, .ireturn, 1), (14, .iconst 0, 1), (15, .ireturn, 1)]
theorem dd_La_printed : (ld_La_printed).all (dOK method_6_code) = true := by decide +kernel
theorem d_La_printed_0 : decode method_6_code 0 = .ok (.aload_n 2, 1) := dd_at dd_La_printed 0 rfl
theorem d_La_printed_1 : decode method_6_code 1 = .ok (.iconst 0, 1) := dd_at dd_La_printed 1 rfl
theorem d_La_printed_2 : decode method_6_code 2 = .ok (.aload_n 0, 1) := dd_at dd_La_printed 2 rfl
theorem d_La_printed_3 : decode method_6_code 3 = .ok (.iload_n 1, 1) := dd_at dd_La_printed 3 rfl
theorem d_La_printed_4 : decode method_6_code 4 = .ok (.invokevirtual 32, 3) := dd_at dd_La_printed 4 rfl
theorem d_La_printed_7 : decode method_6_code 7 = .ok (.dastore, 1) := dd_at dd_La_printed 5 rfl
theorem d_La_printed_8 : decode method_6_code 8 = .ok (.goto (6), 3) := dd_at dd_La_printed 6 rfl
theorem d_La_printed_11 : decode method_6_code 11 = .ok (.astore_n 3, 1) := dd_at dd_La_printed 7 rfl
theorem d_La_printed_12 : decode method_6_code 12 = .ok (.iconst 1, 1) := dd_at dd_La_printed 8 rfl
theorem d_La_printed_13 : decode method_6_code 13 = .ok (.ireturn, 1) := dd_at dd_La_printed 9 rfl
theorem d_La_printed_14 : decode method_6_code 14 = .ok (.iconst 0, 1) := dd_at dd_La_printed 10 rfl
theorem d_La_printed_15 : decode method_6_code 15 = .ok (.ireturn, 1) := dd_at dd_La_printed 11 rfl
def ld_La_variable : List (Nat × Instr × Nat) := [(0, .aload_n 2, 1), (1, .iconst 0, 1), (2, .aload_n 0, 1), (3, .iload_n 1, 1), (4, .invokevirtual 36, 3), (7, .dastore, 1), (8, .goto (6), 3), (11, .astore_n 3, 1), (12, .iconst 1, 1), (13, .ireturn, 1), (14, .iconst 0, 1), (15, .ireturn, 1)]
theorem dd_La_variable : (ld_La_variable).all (dOK method_7_code) = true := by decide +kernel
theorem d_La_variable_0 : decode method_7_code 0 = .ok (.aload_n 2, 1) := dd_at dd_La_variable 0 rfl
theorem d_La_variable_1 : decode method_7_code 1 = .ok (.iconst 0, 1) := dd_at dd_La_variable 1 rfl
theorem d_La_variable_2 : decode method_7_code 2 = .ok (.aload_n 0, 1) := dd_at dd_La_variable 2 rfl
theorem d_La_variable_3 : decode method_7_code 3 = .ok (.iload_n 1, 1) := dd_at dd_La_variable 3 rfl
theorem d_La_variable_4 : decode method_7_code 4 = .ok (.invokevirtual 36, 3) := dd_at dd_La_variable 4 rfl
theorem d_La_variable_7 : decode method_7_code 7 = .ok (.dastore, 1) := dd_at dd_La_variable 5 rfl
theorem d_La_variable_8 : decode method_7_code 8 = .ok (.goto (6), 3) := dd_at dd_La_variable 6 rfl
theorem d_La_variable_11 : decode method_7_code 11 = .ok (.astore_n 3, 1) := dd_at dd_La_variable 7 rfl
theorem d_La_variable_12 : decode method_7_code 12 = .ok (.iconst 1, 1) := dd_at dd_La_variable 8 rfl
theorem d_La_variable_13 : decode method_7_code 13 = .ok (.ireturn, 1) := dd_at dd_La_variable 9 rfl
theorem d_La_variable_14 : decode method_7_code 14 = .ok (.iconst 0, 1) := dd_at dd_La_variable 10 rfl
theorem d_La_variable_15 : decode method_7_code 15 = .ok (.ireturn, 1) := dd_at dd_La_variable 11 rfl
def ld_La_element : List (Nat × Instr × Nat) := [(0, .aload 4, 2), (2, .iconst 0, 1), (3, .aload_n 0, 1), (4, .iload_n 1, 1), (5, .iload_n 2, 1), (6, .iload_n 3, 1), (7, .invokevirtual 39, 3), (10, .dastore, 1), (11, .goto (11), 3), (14, .astore 5, 2), (16, .iconst 1, 1), (17, .ireturn, 1), (18, .astore 5, 2), (20, .iconst 2, 1), (21, .ireturn, 1), (22, .iconst 0, 1), (23, .ireturn, 1)]
theorem dd_La_element : (ld_La_element).all (dOK method_8_code) = true := by decide +kernel
theorem d_La_element_0 : decode method_8_code 0 = .ok (.aload 4, 2) := dd_at dd_La_element 0 rfl
theorem d_La_element_2 : decode method_8_code 2 = .ok (.iconst 0, 1) := dd_at dd_La_element 1 rfl
theorem d_La_element_3 : decode method_8_code 3 = .ok (.aload_n 0, 1) := dd_at dd_La_element 2 rfl
theorem d_La_element_4 : decode method_8_code 4 = .ok (.iload_n 1, 1) := dd_at dd_La_element 3 rfl
theorem d_La_element_5 : decode method_8_code 5 = .ok (.iload_n 2, 1) := dd_at dd_La_element 4 rfl
theorem d_La_element_6 : decode method_8_code 6 = .ok (.iload_n 3, 1) := dd_at dd_La_element 5 rfl
theorem d_La_element_7 : decode method_8_code 7 = .ok (.invokevirtual 39, 3) := dd_at dd_La_element 6 rfl
theorem d_La_element_10 : decode method_8_code 10 = .ok (.dastore, 1) := dd_at dd_La_element 7 rfl
theorem d_La_element_11 : decode method_8_code 11 = .ok (.goto (11), 3) := dd_at dd_La_element 8 rfl
theorem d_La_element_14 : decode method_8_code 14 = .ok (.astore 5, 2) := dd_at dd_La_element 9 rfl
theorem d_La_element_16 : decode method_8_code 16 = .ok (.iconst 1, 1) := dd_at dd_La_element 10 rfl
theorem d_La_element_17 : decode method_8_code 17 = .ok (.ireturn, 1) := dd_at dd_La_element 11 rfl
theorem d_La_element_18 : decode method_8_code 18 = .ok (.astore 5, 2) := dd_at dd_La_element 12 rfl
theorem d_La_element_20 : decode method_8_code 20 = .ok (.iconst 2, 1) := dd_at dd_La_element 13 rfl
theorem d_La_element_21 : decode method_8_code 21 = .ok (.ireturn, 1) := dd_at dd_La_element 14 rfl
theorem d_La_element_22 : decode method_8_code 22 = .ok (.iconst 0, 1) := dd_at dd_La_element 15 rfl
theorem d_La_element_23 : decode method_8_code 23 = .ok (.ireturn, 1) := dd_at dd_La_element 16 rfl
theorem gx_astore {X : CXT} {E : EVT} {own : String} {cc : ByteArray} {A : Mem} {pc : Nat} {lv : List (Nat × Value)} (hX : Gd X E own cc) {i : Nat} (hd : decode cc pc = .ok (.astore i, 2)) (hn : i < xnL X) (kk : G X E A (pc + 2) [] []) : GX X E A pc lv := by
  intro a H locs ls h1 h2 h3
  exact lv_astore hX.1 hX.2.1 hd h3 hn rfl (fun ls9 h9 => kk H locs ls9 h1 h2 (g_lvm h9 (fun q hq => by cases hq)))
def y_La_type : MethodName := ⟨"BasicMachineLaw", "type", "(LBasicMachine;I[J)I"⟩
theorem mfl_BM_type : MFi y_BM_type prog_1_method_2_code 2 (some .int) 1 := ⟨in_tbl 353 (by decide +kernel), in_tbl 351 (by decide +kernel), in_tbl 352 (by decide +kernel), in_tbl 1 (by decide +kernel), by decide, by decide, by decide +kernel⟩
theorem lkl_type : Cond.methodLink "BasicMachineLaw" 7 y_BM_type ∈ gtb := in_tbl 350 (by decide +kernel)
theorem lcl_0_13 : Cond.classLink "BasicMachineLaw" 13 (exN.getD 0 "") ∈ gtb := in_tbl 348 (by decide +kernel)
theorem lcl_1_15 : Cond.classLink "BasicMachineLaw" 15 (exN.getD 1 "") ∈ gtb := in_tbl 349 (by decide +kernel)
def y_La_enter : MethodName := ⟨"BasicMachineLaw", "enter", "(LBasicMachine;[J)I"⟩
theorem mfl_BM_enter : MFi y_BM_enter prog_1_method_3_code 4 (some .int) 0 := ⟨in_tbl 448 (by decide +kernel), in_tbl 446 (by decide +kernel), in_tbl 447 (by decide +kernel), in_tbl 1 (by decide +kernel), by decide, by decide, by decide +kernel⟩
theorem lkl_enter : Cond.methodLink "BasicMachineLaw" 17 y_BM_enter ∈ gtb := in_tbl 445 (by decide +kernel)
theorem lcl_2_21 : Cond.classLink "BasicMachineLaw" 21 (exN.getD 2 "") ∈ gtb := in_tbl 444 (by decide +kernel)
def y_La_run : MethodName := ⟨"BasicMachineLaw", "run", "(LBasicMachine;[J)I"⟩
theorem mfl_BM_run : MFi y_BM_run prog_1_method_6_code 1 (some .int) 0 := ⟨in_tbl 774 (by decide +kernel), in_tbl 772 (by decide +kernel), in_tbl 773 (by decide +kernel), in_tbl 1 (by decide +kernel), by decide, by decide, by decide +kernel⟩
theorem lkl_run : Cond.methodLink "BasicMachineLaw" 23 y_BM_run ∈ gtb := in_tbl 771 (by decide +kernel)
theorem lcl_3_26 : Cond.classLink "BasicMachineLaw" 26 (exN.getD 3 "") ∈ gtb := in_tbl 768 (by decide +kernel)
theorem lcl_4_28 : Cond.classLink "BasicMachineLaw" 28 (exN.getD 4 "") ∈ gtb := in_tbl 769 (by decide +kernel)
theorem lcl_5_30 : Cond.classLink "BasicMachineLaw" 30 (exN.getD 5 "") ∈ gtb := in_tbl 770 (by decide +kernel)
def y_La_printed : MethodName := ⟨"BasicMachineLaw", "printed", "(LBasicMachine;I[D)I"⟩
theorem mfl_BM_printed : MFi y_BM_printed prog_1_method_7_code 2 (some .double) 1 := ⟨in_tbl 1136 (by decide +kernel), in_tbl 1134 (by decide +kernel), in_tbl 1135 (by decide +kernel), in_tbl 1 (by decide +kernel), by decide, by decide, by decide +kernel⟩
theorem lkl_printed : Cond.methodLink "BasicMachineLaw" 32 y_BM_printed ∈ gtb := in_tbl 1133 (by decide +kernel)
def y_La_variable : MethodName := ⟨"BasicMachineLaw", "variable", "(LBasicMachine;I[D)I"⟩
theorem mfl_BM_variable : MFi y_BM_variable prog_1_method_8_code 2 (some .double) 1 := ⟨in_tbl 1144 (by decide +kernel), in_tbl 1142 (by decide +kernel), in_tbl 1143 (by decide +kernel), in_tbl 1 (by decide +kernel), by decide, by decide, by decide +kernel⟩
theorem lkl_variable : Cond.methodLink "BasicMachineLaw" 36 y_BM_variable ∈ gtb := in_tbl 1141 (by decide +kernel)
def y_La_element : MethodName := ⟨"BasicMachineLaw", "element", "(LBasicMachine;III[D)I"⟩
theorem mfl_BM_element : MFi y_BM_element prog_1_method_9_code 6 (some .double) 3 := ⟨in_tbl 1154 (by decide +kernel), in_tbl 1152 (by decide +kernel), in_tbl 1153 (by decide +kernel), in_tbl 1 (by decide +kernel), by decide, by decide, by decide +kernel⟩
theorem lkl_element : Cond.methodLink "BasicMachineLaw" 39 y_BM_element ∈ gtb := in_tbl 1151 (by decide +kernel)
def wp_La_type (p1 : Int32) (A : Mem) (K : Int32 → Mem → Prop) : Prop := wp_BM_type 1 p1 A (fun (r : Int32) (A1 : Mem) => K 0 (sL A1 28 0 (Int32.toInt64 r))) (fun (i : Nat) (A1 : Mem) => (i = 0 ∧ K 1 A1) ∨ (i = 1 ∧ K 2 A1))
set_option maxHeartbeats 1000000 in
theorem c_La_type (p1 : Int32) (A : Mem) (K : Int32 → Mem → Prop) (h : wp_La_type p1 A K) : CtL y_La_type method_3_code 4 [(0, 9, 12, 13), (0, 9, 15, 15)] 7 112 (fun E => [cr E 1, .int (p1), cr E 28]) A K := by
  refine ctL_of (own := "BasicMachineLaw") (by decide) rfl (fun E => [(0, cr E 1), (1, .int (p1)), (2, cr E 28)]) (fun E => by simp [lg_sl, cr_cat, ca_i, ca_l, ca_d]) (fun E => by simp [lv_args, cr_cat, ca_i, ca_l, ca_d]) (fun X E hX hR hN hQ hz => ?_)
  unfold wp_La_type at h
  refine g_aload_n (pc := 0) hX d_La_type_0 rfl 2 rfl ?_
  refine g_iconst (pc := 1) (v := 0) hX d_La_type_1 (by decide) ?_
  refine g_aload_n (pc := 2) hX d_La_type_2 rfl 0 rfl ?_
  refine g_iload_n (pc := 3) hX d_La_type_3 rfl 1 rfl ?_
  refine g_callV_T (pc := 4) (x := 1) (As := [.int (p1)]) (rest := [.int 0, cr E 28]) hX hR hQ.2.2.1 ⟨by rw [hz.1]; exact hQ.2.2.2.1, by rw [hz.2]; exact hQ.2.2.2.2.1⟩ rfl cf1 rfl lkl_type mfl_BM_type (c_BM_type 1 p1 A _ _ h) rfl rfl rfl ⟨by decide, by decide⟩ (cat_sum _ (Nat.le_of_ble_eq_true rfl)) d_La_type_4 (fun v A9 hv => ?_) (fun i A9 hi hkx => ?_)
  · obtain ⟨r, rfl, h⟩ := hv
    have hX1 : Gd (up1 X) E "BasicMachineLaw" method_3_code := hX
    have hQ1 : QL (up1 X) E K [(0, 9, 12, 13), (0, 9, 15, 15)] := hQ
    have hc1 : xcells (up1 X) ≤ 1 ∧ xslots (up1 X) ≤ 6 := ⟨by show xcells X + 1 ≤ 1; omega, by show xslots X + 6 ≤ 6; omega⟩
    refine g_i2l (pc := 7) hX1 d_La_type_7 ?_
    refine g_lastore (pc := 8) (x := 28) hX1 (by decide) (by unfold vp_in; decide) d_La_type_8 ?_
    refine g_goto (pc := 9) (tgt := 18) hX1 d_La_type_9 (by decide) ?_
    refine g_iconst (pc := 18) (v := 0) hX1 d_La_type_18 (by decide) ?_
    exact g_iretL (pc := 19) hX1 hQ1 hc1 rfl d_La_type_19 h
  · have hX1 : Gd (up1 X) E "BasicMachineLaw" method_3_code := hX
    have hQ1 : QL (up1 X) E K [(0, 9, 12, 13), (0, 9, 15, 15)] := hQ
    have hc1 : xcells (up1 X) ≤ 1 ∧ xslots (up1 X) ≤ 6 := ⟨by show xcells X + 1 ≤ 1; omega, by show xslots X + 6 ≤ 6; omega⟩
    have hN1 : xnL (up1 X) = 4 := hN
    rcases hkx with ⟨rfl, h⟩ | ⟨rfl, h⟩
    · refine ⟨[], ⟨0, 9, 12, 13⟩, [⟨0, 9, 15, 15⟩], hQ.2.2.2.2.2, ⟨by decide, by decide, lcl_0_13, by decide⟩, fun _ hy => absurd hy List.not_mem_nil, ?_⟩
      refine gx_astore_n (pc := 12) hX1 d_La_type_12 rfl (by rw [hN1]; decide) ?_
      refine g_iconst (pc := 13) (v := 1) hX1 d_La_type_13 (by decide) ?_
      exact g_iretL (pc := 14) hX1 hQ1 hc1 rfl d_La_type_14 h
    · refine ⟨[⟨0, 9, 12, 13⟩], ⟨0, 9, 15, 15⟩, [], hQ.2.2.2.2.2, ⟨by decide, by decide, lcl_1_15, by decide⟩, List.forall_mem_cons.mpr ⟨⟨0, by decide, by decide, by decide, lcl_0_13, by decide⟩, fun _ hy => absurd hy List.not_mem_nil⟩, ?_⟩
      refine gx_astore_n (pc := 15) hX1 d_La_type_15 rfl (by rw [hN1]; decide) ?_
      refine g_iconst (pc := 16) (v := 2) hX1 d_La_type_16 (by decide) ?_
      exact g_iretL (pc := 17) hX1 hQ1 hc1 rfl d_La_type_17 h
def wp_La_enter  (A : Mem) (K : Int32 → Mem → Prop) : Prop := wp_BM_enter 1  A (fun (r : Int32) (A1 : Mem) => K 0 (sL A1 28 0 (Int32.toInt64 r))) (fun (i : Nat) (A1 : Mem) => (i = 0 ∧ K 1 A1) ∨ (i = 2 ∧ K 2 A1) ∨ (i = 1 ∧ K 3 A1))
set_option maxHeartbeats 1000000 in
theorem c_La_enter  (A : Mem) (K : Int32 → Mem → Prop) (h : wp_La_enter  A K) : CtL y_La_enter method_4_code 3 [(0, 8, 11, 13), (0, 8, 14, 21), (0, 8, 17, 15)] 78 1682 (fun E => [cr E 1, cr E 28]) A K := by
  refine ctL_of (own := "BasicMachineLaw") (by decide) rfl (fun E => [(0, cr E 1), (1, cr E 28)]) (fun E => by simp [lg_sl, cr_cat, ca_i, ca_l, ca_d]) (fun E => by simp [lv_args, cr_cat, ca_i, ca_l, ca_d]) (fun X E hX hR hN hQ hz => ?_)
  unfold wp_La_enter at h
  refine g_aload_n (pc := 0) hX d_La_enter_0 rfl 1 rfl ?_
  refine g_iconst (pc := 1) (v := 0) hX d_La_enter_1 (by decide) ?_
  refine g_aload_n (pc := 2) hX d_La_enter_2 rfl 0 rfl ?_
  refine g_callV_T (pc := 3) (x := 1) (As := []) (rest := [.int 0, cr E 28]) hX hR hQ.2.2.1 ⟨by rw [hz.1]; exact hQ.2.2.2.1, by rw [hz.2]; exact hQ.2.2.2.2.1⟩ rfl cf1 rfl lkl_enter mfl_BM_enter (c_BM_enter 1  A _ _ h) rfl rfl rfl ⟨by decide, by decide⟩ (cat_sum _ (Nat.le_of_ble_eq_true rfl)) d_La_enter_3 (fun v A9 hv => ?_) (fun i A9 hi hkx => ?_)
  · obtain ⟨r, rfl, h⟩ := hv
    have hX1 : Gd (up1 X) E "BasicMachineLaw" method_4_code := hX
    have hQ1 : QL (up1 X) E K [(0, 8, 11, 13), (0, 8, 14, 21), (0, 8, 17, 15)] := hQ
    have hc1 : xcells (up1 X) ≤ 1 ∧ xslots (up1 X) ≤ 6 := ⟨by show xcells X + 1 ≤ 1; omega, by show xslots X + 6 ≤ 6; omega⟩
    refine g_i2l (pc := 6) hX1 d_La_enter_6 ?_
    refine g_lastore (pc := 7) (x := 28) hX1 (by decide) (by unfold vp_in; decide) d_La_enter_7 ?_
    refine g_goto (pc := 8) (tgt := 20) hX1 d_La_enter_8 (by decide) ?_
    refine g_iconst (pc := 20) (v := 0) hX1 d_La_enter_20 (by decide) ?_
    exact g_iretL (pc := 21) hX1 hQ1 hc1 rfl d_La_enter_21 h
  · have hX1 : Gd (up1 X) E "BasicMachineLaw" method_4_code := hX
    have hQ1 : QL (up1 X) E K [(0, 8, 11, 13), (0, 8, 14, 21), (0, 8, 17, 15)] := hQ
    have hc1 : xcells (up1 X) ≤ 1 ∧ xslots (up1 X) ≤ 6 := ⟨by show xcells X + 1 ≤ 1; omega, by show xslots X + 6 ≤ 6; omega⟩
    have hN1 : xnL (up1 X) = 3 := hN
    rcases hkx with ⟨rfl, h⟩ | ⟨rfl, h⟩ | ⟨rfl, h⟩
    · refine ⟨[], ⟨0, 8, 11, 13⟩, [⟨0, 8, 14, 21⟩, ⟨0, 8, 17, 15⟩], hQ.2.2.2.2.2, ⟨by decide, by decide, lcl_0_13, by decide⟩, fun _ hy => absurd hy List.not_mem_nil, ?_⟩
      refine gx_astore_n (pc := 11) hX1 d_La_enter_11 rfl (by rw [hN1]; decide) ?_
      refine g_iconst (pc := 12) (v := 1) hX1 d_La_enter_12 (by decide) ?_
      exact g_iretL (pc := 13) hX1 hQ1 hc1 rfl d_La_enter_13 h
    · refine ⟨[⟨0, 8, 11, 13⟩], ⟨0, 8, 14, 21⟩, [⟨0, 8, 17, 15⟩], hQ.2.2.2.2.2, ⟨by decide, by decide, lcl_2_21, by decide⟩, List.forall_mem_cons.mpr ⟨⟨0, by decide, by decide, by decide, lcl_0_13, by decide⟩, fun _ hy => absurd hy List.not_mem_nil⟩, ?_⟩
      refine gx_astore_n (pc := 14) hX1 d_La_enter_14 rfl (by rw [hN1]; decide) ?_
      refine g_iconst (pc := 15) (v := 2) hX1 d_La_enter_15 (by decide) ?_
      exact g_iretL (pc := 16) hX1 hQ1 hc1 rfl d_La_enter_16 h
    · refine ⟨[⟨0, 8, 11, 13⟩, ⟨0, 8, 14, 21⟩], ⟨0, 8, 17, 15⟩, [], hQ.2.2.2.2.2, ⟨by decide, by decide, lcl_1_15, by decide⟩, List.forall_mem_cons.mpr ⟨⟨0, by decide, by decide, by decide, lcl_0_13, by decide⟩, List.forall_mem_cons.mpr ⟨⟨2, by decide, by decide, by decide, lcl_2_21, by decide⟩, fun _ hy => absurd hy List.not_mem_nil⟩⟩, ?_⟩
      refine gx_astore_n (pc := 17) hX1 d_La_enter_17 rfl (by rw [hN1]; decide) ?_
      refine g_iconst (pc := 18) (v := 3) hX1 d_La_enter_18 (by decide) ?_
      exact g_iretL (pc := 19) hX1 hQ1 hc1 rfl d_La_enter_19 h
def wp_La_run  (A : Mem) (K : Int32 → Mem → Prop) : Prop := wp_BM_run 1  A (fun (r : Int32) (A1 : Mem) => K 0 (sL A1 28 0 (Int32.toInt64 r))) (fun (i : Nat) (A1 : Mem) => (i = 0 ∧ K 1 A1) ∨ (i = 1 ∧ K 2 A1) ∨ (i = 2 ∧ K 3 A1) ∨ (i = 3 ∧ K 4 A1) ∨ (i = 4 ∧ K 5 A1) ∨ (i = 5 ∧ K 6 A1))
set_option maxHeartbeats 1000000 in
theorem c_La_run  (A : Mem) (K : Int32 → Mem → Prop) (h : wp_La_run  A K) : CtL y_La_run method_5_code 3 [(0, 8, 11, 13), (0, 8, 14, 15), (0, 8, 17, 21), (0, 8, 20, 26), (0, 8, 23, 28), (0, 8, 26, 30)] 21 527 (fun E => [cr E 1, cr E 28]) A K := by
  refine ctL_of (own := "BasicMachineLaw") (by decide) rfl (fun E => [(0, cr E 1), (1, cr E 28)]) (fun E => by simp [lg_sl, cr_cat, ca_i, ca_l, ca_d]) (fun E => by simp [lv_args, cr_cat, ca_i, ca_l, ca_d]) (fun X E hX hR hN hQ hz => ?_)
  unfold wp_La_run at h
  refine g_aload_n (pc := 0) hX d_La_run_0 rfl 1 rfl ?_
  refine g_iconst (pc := 1) (v := 0) hX d_La_run_1 (by decide) ?_
  refine g_aload_n (pc := 2) hX d_La_run_2 rfl 0 rfl ?_
  refine g_callV_T (pc := 3) (x := 1) (As := []) (rest := [.int 0, cr E 28]) hX hR hQ.2.2.1 ⟨by rw [hz.1]; exact hQ.2.2.2.1, by rw [hz.2]; exact hQ.2.2.2.2.1⟩ rfl cf1 rfl lkl_run mfl_BM_run (c_BM_run 1  A _ _ h) rfl rfl rfl ⟨by decide, by decide⟩ (cat_sum _ (Nat.le_of_ble_eq_true rfl)) d_La_run_3 (fun v A9 hv => ?_) (fun i A9 hi hkx => ?_)
  · obtain ⟨r, rfl, h⟩ := hv
    have hX1 : Gd (up1 X) E "BasicMachineLaw" method_5_code := hX
    have hQ1 : QL (up1 X) E K [(0, 8, 11, 13), (0, 8, 14, 15), (0, 8, 17, 21), (0, 8, 20, 26), (0, 8, 23, 28), (0, 8, 26, 30)] := hQ
    have hc1 : xcells (up1 X) ≤ 1 ∧ xslots (up1 X) ≤ 6 := ⟨by show xcells X + 1 ≤ 1; omega, by show xslots X + 6 ≤ 6; omega⟩
    refine g_i2l (pc := 6) hX1 d_La_run_6 ?_
    refine g_lastore (pc := 7) (x := 28) hX1 (by decide) (by unfold vp_in; decide) d_La_run_7 ?_
    refine g_goto (pc := 8) (tgt := 30) hX1 d_La_run_8 (by decide) ?_
    refine g_iconst (pc := 30) (v := 0) hX1 d_La_run_30 (by decide) ?_
    exact g_iretL (pc := 31) hX1 hQ1 hc1 rfl d_La_run_31 h
  · have hX1 : Gd (up1 X) E "BasicMachineLaw" method_5_code := hX
    have hQ1 : QL (up1 X) E K [(0, 8, 11, 13), (0, 8, 14, 15), (0, 8, 17, 21), (0, 8, 20, 26), (0, 8, 23, 28), (0, 8, 26, 30)] := hQ
    have hc1 : xcells (up1 X) ≤ 1 ∧ xslots (up1 X) ≤ 6 := ⟨by show xcells X + 1 ≤ 1; omega, by show xslots X + 6 ≤ 6; omega⟩
    have hN1 : xnL (up1 X) = 3 := hN
    rcases hkx with ⟨rfl, h⟩ | ⟨rfl, h⟩ | ⟨rfl, h⟩ | ⟨rfl, h⟩ | ⟨rfl, h⟩ | ⟨rfl, h⟩
    · refine ⟨[], ⟨0, 8, 11, 13⟩, [⟨0, 8, 14, 15⟩, ⟨0, 8, 17, 21⟩, ⟨0, 8, 20, 26⟩, ⟨0, 8, 23, 28⟩, ⟨0, 8, 26, 30⟩], hQ.2.2.2.2.2, ⟨by decide, by decide, lcl_0_13, by decide⟩, fun _ hy => absurd hy List.not_mem_nil, ?_⟩
      refine gx_astore_n (pc := 11) hX1 d_La_run_11 rfl (by rw [hN1]; decide) ?_
      refine g_iconst (pc := 12) (v := 1) hX1 d_La_run_12 (by decide) ?_
      exact g_iretL (pc := 13) hX1 hQ1 hc1 rfl d_La_run_13 h
    · refine ⟨[⟨0, 8, 11, 13⟩], ⟨0, 8, 14, 15⟩, [⟨0, 8, 17, 21⟩, ⟨0, 8, 20, 26⟩, ⟨0, 8, 23, 28⟩, ⟨0, 8, 26, 30⟩], hQ.2.2.2.2.2, ⟨by decide, by decide, lcl_1_15, by decide⟩, List.forall_mem_cons.mpr ⟨⟨0, by decide, by decide, by decide, lcl_0_13, by decide⟩, fun _ hy => absurd hy List.not_mem_nil⟩, ?_⟩
      refine gx_astore_n (pc := 14) hX1 d_La_run_14 rfl (by rw [hN1]; decide) ?_
      refine g_iconst (pc := 15) (v := 2) hX1 d_La_run_15 (by decide) ?_
      exact g_iretL (pc := 16) hX1 hQ1 hc1 rfl d_La_run_16 h
    · refine ⟨[⟨0, 8, 11, 13⟩, ⟨0, 8, 14, 15⟩], ⟨0, 8, 17, 21⟩, [⟨0, 8, 20, 26⟩, ⟨0, 8, 23, 28⟩, ⟨0, 8, 26, 30⟩], hQ.2.2.2.2.2, ⟨by decide, by decide, lcl_2_21, by decide⟩, List.forall_mem_cons.mpr ⟨⟨0, by decide, by decide, by decide, lcl_0_13, by decide⟩, List.forall_mem_cons.mpr ⟨⟨1, by decide, by decide, by decide, lcl_1_15, by decide⟩, fun _ hy => absurd hy List.not_mem_nil⟩⟩, ?_⟩
      refine gx_astore_n (pc := 17) hX1 d_La_run_17 rfl (by rw [hN1]; decide) ?_
      refine g_iconst (pc := 18) (v := 3) hX1 d_La_run_18 (by decide) ?_
      exact g_iretL (pc := 19) hX1 hQ1 hc1 rfl d_La_run_19 h
    · refine ⟨[⟨0, 8, 11, 13⟩, ⟨0, 8, 14, 15⟩, ⟨0, 8, 17, 21⟩], ⟨0, 8, 20, 26⟩, [⟨0, 8, 23, 28⟩, ⟨0, 8, 26, 30⟩], hQ.2.2.2.2.2, ⟨by decide, by decide, lcl_3_26, by decide⟩, List.forall_mem_cons.mpr ⟨⟨0, by decide, by decide, by decide, lcl_0_13, by decide⟩, List.forall_mem_cons.mpr ⟨⟨1, by decide, by decide, by decide, lcl_1_15, by decide⟩, List.forall_mem_cons.mpr ⟨⟨2, by decide, by decide, by decide, lcl_2_21, by decide⟩, fun _ hy => absurd hy List.not_mem_nil⟩⟩⟩, ?_⟩
      refine gx_astore_n (pc := 20) hX1 d_La_run_20 rfl (by rw [hN1]; decide) ?_
      refine g_iconst (pc := 21) (v := 4) hX1 d_La_run_21 (by decide) ?_
      exact g_iretL (pc := 22) hX1 hQ1 hc1 rfl d_La_run_22 h
    · refine ⟨[⟨0, 8, 11, 13⟩, ⟨0, 8, 14, 15⟩, ⟨0, 8, 17, 21⟩, ⟨0, 8, 20, 26⟩], ⟨0, 8, 23, 28⟩, [⟨0, 8, 26, 30⟩], hQ.2.2.2.2.2, ⟨by decide, by decide, lcl_4_28, by decide⟩, List.forall_mem_cons.mpr ⟨⟨0, by decide, by decide, by decide, lcl_0_13, by decide⟩, List.forall_mem_cons.mpr ⟨⟨1, by decide, by decide, by decide, lcl_1_15, by decide⟩, List.forall_mem_cons.mpr ⟨⟨2, by decide, by decide, by decide, lcl_2_21, by decide⟩, List.forall_mem_cons.mpr ⟨⟨3, by decide, by decide, by decide, lcl_3_26, by decide⟩, fun _ hy => absurd hy List.not_mem_nil⟩⟩⟩⟩, ?_⟩
      refine gx_astore_n (pc := 23) hX1 d_La_run_23 rfl (by rw [hN1]; decide) ?_
      refine g_iconst (pc := 24) (v := 5) hX1 d_La_run_24 (by decide) ?_
      exact g_iretL (pc := 25) hX1 hQ1 hc1 rfl d_La_run_25 h
    · refine ⟨[⟨0, 8, 11, 13⟩, ⟨0, 8, 14, 15⟩, ⟨0, 8, 17, 21⟩, ⟨0, 8, 20, 26⟩, ⟨0, 8, 23, 28⟩], ⟨0, 8, 26, 30⟩, [], hQ.2.2.2.2.2, ⟨by decide, by decide, lcl_5_30, by decide⟩, List.forall_mem_cons.mpr ⟨⟨0, by decide, by decide, by decide, lcl_0_13, by decide⟩, List.forall_mem_cons.mpr ⟨⟨1, by decide, by decide, by decide, lcl_1_15, by decide⟩, List.forall_mem_cons.mpr ⟨⟨2, by decide, by decide, by decide, lcl_2_21, by decide⟩, List.forall_mem_cons.mpr ⟨⟨3, by decide, by decide, by decide, lcl_3_26, by decide⟩, List.forall_mem_cons.mpr ⟨⟨4, by decide, by decide, by decide, lcl_4_28, by decide⟩, fun _ hy => absurd hy List.not_mem_nil⟩⟩⟩⟩⟩, ?_⟩
      refine gx_astore_n (pc := 26) hX1 d_La_run_26 rfl (by rw [hN1]; decide) ?_
      refine g_bipush (pc := 27) (v := 6) hX1 d_La_run_27 (by decide) ?_
      exact g_iretL (pc := 29) hX1 hQ1 hc1 rfl d_La_run_29 h
def wp_La_printed (p1 : Int32) (A : Mem) (K : Int32 → Mem → Prop) : Prop := wp_BM_printed 1 p1 A (fun (r : UInt64) (A1 : Mem) => K 0 (sD A1 29 0 r)) (fun (i : Nat) (A1 : Mem) => (i = 2 ∧ K 1 A1))
set_option maxHeartbeats 1000000 in
theorem c_La_printed (p1 : Int32) (A : Mem) (K : Int32 → Mem → Prop) (h : wp_La_printed p1 A K) : CtL y_La_printed method_6_code 4 [(0, 8, 11, 21)] 7 112 (fun E => [cr E 1, .int (p1), cr E 29]) A K := by
  refine ctL_of (own := "BasicMachineLaw") (by decide) rfl (fun E => [(0, cr E 1), (1, .int (p1)), (2, cr E 29)]) (fun E => by simp [lg_sl, cr_cat, ca_i, ca_l, ca_d]) (fun E => by simp [lv_args, cr_cat, ca_i, ca_l, ca_d]) (fun X E hX hR hN hQ hz => ?_)
  unfold wp_La_printed at h
  refine g_aload_n (pc := 0) hX d_La_printed_0 rfl 2 rfl ?_
  refine g_iconst (pc := 1) (v := 0) hX d_La_printed_1 (by decide) ?_
  refine g_aload_n (pc := 2) hX d_La_printed_2 rfl 0 rfl ?_
  refine g_iload_n (pc := 3) hX d_La_printed_3 rfl 1 rfl ?_
  refine g_callV_T (pc := 4) (x := 1) (As := [.int (p1)]) (rest := [.int 0, cr E 29]) hX hR hQ.2.2.1 ⟨by rw [hz.1]; exact hQ.2.2.2.1, by rw [hz.2]; exact hQ.2.2.2.2.1⟩ rfl cf1 rfl lkl_printed mfl_BM_printed (c_BM_printed 1 p1 A _ _ h) rfl rfl rfl ⟨by decide, by decide⟩ (cat_sum _ (Nat.le_of_ble_eq_true rfl)) d_La_printed_4 (fun v A9 hv => ?_) (fun i A9 hi hkx => ?_)
  · obtain ⟨r, rfl, h⟩ := hv
    have hX1 : Gd (up1 X) E "BasicMachineLaw" method_6_code := hX
    have hQ1 : QL (up1 X) E K [(0, 8, 11, 21)] := hQ
    have hc1 : xcells (up1 X) ≤ 1 ∧ xslots (up1 X) ≤ 6 := ⟨by show xcells X + 1 ≤ 1; omega, by show xslots X + 6 ≤ 6; omega⟩
    refine g_dastore (pc := 7) (x := 29) hX1 (by decide) (by unfold vp_in; decide) d_La_printed_7 ?_
    refine g_goto (pc := 8) (tgt := 14) hX1 d_La_printed_8 (by decide) ?_
    refine g_iconst (pc := 14) (v := 0) hX1 d_La_printed_14 (by decide) ?_
    exact g_iretL (pc := 15) hX1 hQ1 hc1 rfl d_La_printed_15 h
  · have hX1 : Gd (up1 X) E "BasicMachineLaw" method_6_code := hX
    have hQ1 : QL (up1 X) E K [(0, 8, 11, 21)] := hQ
    have hc1 : xcells (up1 X) ≤ 1 ∧ xslots (up1 X) ≤ 6 := ⟨by show xcells X + 1 ≤ 1; omega, by show xslots X + 6 ≤ 6; omega⟩
    have hN1 : xnL (up1 X) = 4 := hN
    obtain ⟨rfl, h⟩ := hkx
    refine ⟨[], ⟨0, 8, 11, 21⟩, [], hQ.2.2.2.2.2, ⟨by decide, by decide, lcl_2_21, by decide⟩, fun _ hy => absurd hy List.not_mem_nil, ?_⟩
    refine gx_astore_n (pc := 11) hX1 d_La_printed_11 rfl (by rw [hN1]; decide) ?_
    refine g_iconst (pc := 12) (v := 1) hX1 d_La_printed_12 (by decide) ?_
    exact g_iretL (pc := 13) hX1 hQ1 hc1 rfl d_La_printed_13 h
def wp_La_variable (p1 : Int32) (A : Mem) (K : Int32 → Mem → Prop) : Prop := wp_BM_variable 1 p1 A (fun (r : UInt64) (A1 : Mem) => K 0 (sD A1 29 0 r)) (fun (i : Nat) (A1 : Mem) => (i = 0 ∧ K 1 A1))
set_option maxHeartbeats 1000000 in
theorem c_La_variable (p1 : Int32) (A : Mem) (K : Int32 → Mem → Prop) (h : wp_La_variable p1 A K) : CtL y_La_variable method_7_code 4 [(0, 8, 11, 13)] 7 112 (fun E => [cr E 1, .int (p1), cr E 29]) A K := by
  refine ctL_of (own := "BasicMachineLaw") (by decide) rfl (fun E => [(0, cr E 1), (1, .int (p1)), (2, cr E 29)]) (fun E => by simp [lg_sl, cr_cat, ca_i, ca_l, ca_d]) (fun E => by simp [lv_args, cr_cat, ca_i, ca_l, ca_d]) (fun X E hX hR hN hQ hz => ?_)
  unfold wp_La_variable at h
  refine g_aload_n (pc := 0) hX d_La_variable_0 rfl 2 rfl ?_
  refine g_iconst (pc := 1) (v := 0) hX d_La_variable_1 (by decide) ?_
  refine g_aload_n (pc := 2) hX d_La_variable_2 rfl 0 rfl ?_
  refine g_iload_n (pc := 3) hX d_La_variable_3 rfl 1 rfl ?_
  refine g_callV_T (pc := 4) (x := 1) (As := [.int (p1)]) (rest := [.int 0, cr E 29]) hX hR hQ.2.2.1 ⟨by rw [hz.1]; exact hQ.2.2.2.1, by rw [hz.2]; exact hQ.2.2.2.2.1⟩ rfl cf1 rfl lkl_variable mfl_BM_variable (c_BM_variable 1 p1 A _ _ h) rfl rfl rfl ⟨by decide, by decide⟩ (cat_sum _ (Nat.le_of_ble_eq_true rfl)) d_La_variable_4 (fun v A9 hv => ?_) (fun i A9 hi hkx => ?_)
  · obtain ⟨r, rfl, h⟩ := hv
    have hX1 : Gd (up1 X) E "BasicMachineLaw" method_7_code := hX
    have hQ1 : QL (up1 X) E K [(0, 8, 11, 13)] := hQ
    have hc1 : xcells (up1 X) ≤ 1 ∧ xslots (up1 X) ≤ 6 := ⟨by show xcells X + 1 ≤ 1; omega, by show xslots X + 6 ≤ 6; omega⟩
    refine g_dastore (pc := 7) (x := 29) hX1 (by decide) (by unfold vp_in; decide) d_La_variable_7 ?_
    refine g_goto (pc := 8) (tgt := 14) hX1 d_La_variable_8 (by decide) ?_
    refine g_iconst (pc := 14) (v := 0) hX1 d_La_variable_14 (by decide) ?_
    exact g_iretL (pc := 15) hX1 hQ1 hc1 rfl d_La_variable_15 h
  · have hX1 : Gd (up1 X) E "BasicMachineLaw" method_7_code := hX
    have hQ1 : QL (up1 X) E K [(0, 8, 11, 13)] := hQ
    have hc1 : xcells (up1 X) ≤ 1 ∧ xslots (up1 X) ≤ 6 := ⟨by show xcells X + 1 ≤ 1; omega, by show xslots X + 6 ≤ 6; omega⟩
    have hN1 : xnL (up1 X) = 4 := hN
    obtain ⟨rfl, h⟩ := hkx
    refine ⟨[], ⟨0, 8, 11, 13⟩, [], hQ.2.2.2.2.2, ⟨by decide, by decide, lcl_0_13, by decide⟩, fun _ hy => absurd hy List.not_mem_nil, ?_⟩
    refine gx_astore_n (pc := 11) hX1 d_La_variable_11 rfl (by rw [hN1]; decide) ?_
    refine g_iconst (pc := 12) (v := 1) hX1 d_La_variable_12 (by decide) ?_
    exact g_iretL (pc := 13) hX1 hQ1 hc1 rfl d_La_variable_13 h
def wp_La_element (p1 : Int32) (p2 : Int32) (p3 : Int32) (A : Mem) (K : Int32 → Mem → Prop) : Prop := wp_BM_element 1 p1 p2 p3 A (fun (r : UInt64) (A1 : Mem) => K 0 (sD A1 29 0 r)) (fun (i : Nat) (A1 : Mem) => (i = 0 ∧ K 1 A1) ∨ (i = 4 ∧ K 2 A1))
set_option maxHeartbeats 1000000 in
theorem c_La_element (p1 : Int32) (p2 : Int32) (p3 : Int32) (A : Mem) (K : Int32 → Mem → Prop) (h : wp_La_element p1 p2 p3 A K) : CtL y_La_element method_8_code 6 [(0, 11, 14, 13), (0, 11, 18, 28)] 7 116 (fun E => [cr E 1, .int (p1), .int (p2), .int (p3), cr E 29]) A K := by
  refine ctL_of (own := "BasicMachineLaw") (by decide) rfl (fun E => [(0, cr E 1), (1, .int (p1)), (2, .int (p2)), (3, .int (p3)), (4, cr E 29)]) (fun E => by simp [lg_sl, cr_cat, ca_i, ca_l, ca_d]) (fun E => by simp [lv_args, cr_cat, ca_i, ca_l, ca_d]) (fun X E hX hR hN hQ hz => ?_)
  unfold wp_La_element at h
  refine g_aload (pc := 0) hX d_La_element_0 4 rfl ?_
  refine g_iconst (pc := 2) (v := 0) hX d_La_element_2 (by decide) ?_
  refine g_aload_n (pc := 3) hX d_La_element_3 rfl 0 rfl ?_
  refine g_iload_n (pc := 4) hX d_La_element_4 rfl 1 rfl ?_
  refine g_iload_n (pc := 5) hX d_La_element_5 rfl 2 rfl ?_
  refine g_iload_n (pc := 6) hX d_La_element_6 rfl 3 rfl ?_
  refine g_callV_T (pc := 7) (x := 1) (As := [.int (p1), .int (p2), .int (p3)]) (rest := [.int 0, cr E 29]) hX hR hQ.2.2.1 ⟨by rw [hz.1]; exact hQ.2.2.2.1, by rw [hz.2]; exact hQ.2.2.2.2.1⟩ rfl cf1 rfl lkl_element mfl_BM_element (c_BM_element 1 p1 p2 p3 A _ _ h) rfl rfl rfl ⟨by decide, by decide⟩ (cat_sum _ (Nat.le_of_ble_eq_true rfl)) d_La_element_7 (fun v A9 hv => ?_) (fun i A9 hi hkx => ?_)
  · obtain ⟨r, rfl, h⟩ := hv
    have hX1 : Gd (up1 X) E "BasicMachineLaw" method_8_code := hX
    have hQ1 : QL (up1 X) E K [(0, 11, 14, 13), (0, 11, 18, 28)] := hQ
    have hc1 : xcells (up1 X) ≤ 1 ∧ xslots (up1 X) ≤ 6 := ⟨by show xcells X + 1 ≤ 1; omega, by show xslots X + 6 ≤ 6; omega⟩
    refine g_dastore (pc := 10) (x := 29) hX1 (by decide) (by unfold vp_in; decide) d_La_element_10 ?_
    refine g_goto (pc := 11) (tgt := 22) hX1 d_La_element_11 (by decide) ?_
    refine g_iconst (pc := 22) (v := 0) hX1 d_La_element_22 (by decide) ?_
    exact g_iretL (pc := 23) hX1 hQ1 hc1 rfl d_La_element_23 h
  · have hX1 : Gd (up1 X) E "BasicMachineLaw" method_8_code := hX
    have hQ1 : QL (up1 X) E K [(0, 11, 14, 13), (0, 11, 18, 28)] := hQ
    have hc1 : xcells (up1 X) ≤ 1 ∧ xslots (up1 X) ≤ 6 := ⟨by show xcells X + 1 ≤ 1; omega, by show xslots X + 6 ≤ 6; omega⟩
    have hN1 : xnL (up1 X) = 6 := hN
    rcases hkx with ⟨rfl, h⟩ | ⟨rfl, h⟩
    · refine ⟨[], ⟨0, 11, 14, 13⟩, [⟨0, 11, 18, 28⟩], hQ.2.2.2.2.2, ⟨by decide, by decide, lcl_0_13, by decide⟩, fun _ hy => absurd hy List.not_mem_nil, ?_⟩
      refine gx_astore (pc := 14) hX1 d_La_element_14 (by rw [hN1]; decide) ?_
      refine g_iconst (pc := 16) (v := 1) hX1 d_La_element_16 (by decide) ?_
      exact g_iretL (pc := 17) hX1 hQ1 hc1 rfl d_La_element_17 h
    · refine ⟨[⟨0, 11, 14, 13⟩], ⟨0, 11, 18, 28⟩, [], hQ.2.2.2.2.2, ⟨by decide, by decide, lcl_4_28, by decide⟩, List.forall_mem_cons.mpr ⟨⟨0, by decide, by decide, by decide, lcl_0_13, by decide⟩, fun _ hy => absurd hy List.not_mem_nil⟩, ?_⟩
      refine gx_astore (pc := 18) hX1 d_La_element_18 (by rw [hN1]; decide) ?_
      refine g_iconst (pc := 20) (v := 2) hX1 d_La_element_20 (by decide) ?_
      exact g_iretL (pc := 21) hX1 hQ1 hc1 rfl d_La_element_21 h
