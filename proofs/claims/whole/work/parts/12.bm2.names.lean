def ld_BM_type : List (Nat × Instr × Nat) := [(0, .iload_n 1, 1), (1, .ifCond .lt (9), 3), (4, .iload_n 1, 1), (5, .bipush (127), 2), (7, .if_icmp .le (13), 3), (10, .new 31, 3), (13, .dup, 1), (14, .ldc 33, 2), (16, .invokespecial 35, 3), (19, .athrow, 1), (20, .aload_n 0, 1), (21, .getfield 38, 3), (24, .bipush (60), 2), (26, .if_icmp .lt (13), 3), (29, .new 41, 3), (32, .dup, 1), (33, .ldc 43, 2), (35, .invokespecial 45, 3), (38, .athrow, 1), (39, .aload_n 0, 1), (40, .getfield 9, 3), (43, .aload_n 0, 1), (44, .getfield 38, 3), (47, .iload_n 1, 1), (48, .i2c, 1), (49, .castore, 1), (50, .aload_n 0, 1), (51, .dup, 1), (52, .getfield 38, 3), (55, .iconst 1, 1), (56, .iadd, 1), (57, .putfield 38, 3), (60, .aload_n 0, 1), (61, .getfield 38, 3), (64, .ireturn, 1)]
theorem dd_BM_type : (ld_BM_type).all (dOK prog_1_method_2_code) = true := by decide +kernel
theorem d_BM_type_0 : decode prog_1_method_2_code 0 = .ok (.iload_n 1, 1) := dd_at dd_BM_type 0 rfl
theorem d_BM_type_1 : decode prog_1_method_2_code 1 = .ok (.ifCond .lt (9), 3) := dd_at dd_BM_type 1 rfl
theorem d_BM_type_4 : decode prog_1_method_2_code 4 = .ok (.iload_n 1, 1) := dd_at dd_BM_type 2 rfl
theorem d_BM_type_5 : decode prog_1_method_2_code 5 = .ok (.bipush (127), 2) := dd_at dd_BM_type 3 rfl
theorem d_BM_type_7 : decode prog_1_method_2_code 7 = .ok (.if_icmp .le (13), 3) := dd_at dd_BM_type 4 rfl
theorem d_BM_type_10 : decode prog_1_method_2_code 10 = .ok (.new 31, 3) := dd_at dd_BM_type 5 rfl
theorem d_BM_type_13 : decode prog_1_method_2_code 13 = .ok (.dup, 1) := dd_at dd_BM_type 6 rfl
theorem d_BM_type_14 : decode prog_1_method_2_code 14 = .ok (.ldc 33, 2) := dd_at dd_BM_type 7 rfl
theorem d_BM_type_16 : decode prog_1_method_2_code 16 = .ok (.invokespecial 35, 3) := dd_at dd_BM_type 8 rfl
theorem d_BM_type_19 : decode prog_1_method_2_code 19 = .ok (.athrow, 1) := dd_at dd_BM_type 9 rfl
theorem d_BM_type_20 : decode prog_1_method_2_code 20 = .ok (.aload_n 0, 1) := dd_at dd_BM_type 10 rfl
theorem d_BM_type_21 : decode prog_1_method_2_code 21 = .ok (.getfield 38, 3) := dd_at dd_BM_type 11 rfl
theorem d_BM_type_24 : decode prog_1_method_2_code 24 = .ok (.bipush (60), 2) := dd_at dd_BM_type 12 rfl
theorem d_BM_type_26 : decode prog_1_method_2_code 26 = .ok (.if_icmp .lt (13), 3) := dd_at dd_BM_type 13 rfl
theorem d_BM_type_29 : decode prog_1_method_2_code 29 = .ok (.new 41, 3) := dd_at dd_BM_type 14 rfl
theorem d_BM_type_32 : decode prog_1_method_2_code 32 = .ok (.dup, 1) := dd_at dd_BM_type 15 rfl
theorem d_BM_type_33 : decode prog_1_method_2_code 33 = .ok (.ldc 43, 2) := dd_at dd_BM_type 16 rfl
theorem d_BM_type_35 : decode prog_1_method_2_code 35 = .ok (.invokespecial 45, 3) := dd_at dd_BM_type 17 rfl
theorem d_BM_type_38 : decode prog_1_method_2_code 38 = .ok (.athrow, 1) := dd_at dd_BM_type 18 rfl
theorem d_BM_type_39 : decode prog_1_method_2_code 39 = .ok (.aload_n 0, 1) := dd_at dd_BM_type 19 rfl
theorem d_BM_type_40 : decode prog_1_method_2_code 40 = .ok (.getfield 9, 3) := dd_at dd_BM_type 20 rfl
theorem d_BM_type_43 : decode prog_1_method_2_code 43 = .ok (.aload_n 0, 1) := dd_at dd_BM_type 21 rfl
theorem d_BM_type_44 : decode prog_1_method_2_code 44 = .ok (.getfield 38, 3) := dd_at dd_BM_type 22 rfl
theorem d_BM_type_47 : decode prog_1_method_2_code 47 = .ok (.iload_n 1, 1) := dd_at dd_BM_type 23 rfl
theorem d_BM_type_48 : decode prog_1_method_2_code 48 = .ok (.i2c, 1) := dd_at dd_BM_type 24 rfl
theorem d_BM_type_49 : decode prog_1_method_2_code 49 = .ok (.castore, 1) := dd_at dd_BM_type 25 rfl
theorem d_BM_type_50 : decode prog_1_method_2_code 50 = .ok (.aload_n 0, 1) := dd_at dd_BM_type 26 rfl
theorem d_BM_type_51 : decode prog_1_method_2_code 51 = .ok (.dup, 1) := dd_at dd_BM_type 27 rfl
theorem d_BM_type_52 : decode prog_1_method_2_code 52 = .ok (.getfield 38, 3) := dd_at dd_BM_type 28 rfl
theorem d_BM_type_55 : decode prog_1_method_2_code 55 = .ok (.iconst 1, 1) := dd_at dd_BM_type 29 rfl
theorem d_BM_type_56 : decode prog_1_method_2_code 56 = .ok (.iadd, 1) := dd_at dd_BM_type 30 rfl
theorem d_BM_type_57 : decode prog_1_method_2_code 57 = .ok (.putfield 38, 3) := dd_at dd_BM_type 31 rfl
theorem d_BM_type_60 : decode prog_1_method_2_code 60 = .ok (.aload_n 0, 1) := dd_at dd_BM_type 32 rfl
theorem d_BM_type_61 : decode prog_1_method_2_code 61 = .ok (.getfield 38, 3) := dd_at dd_BM_type 33 rfl
theorem d_BM_type_64 : decode prog_1_method_2_code 64 = .ok (.ireturn, 1) := dd_at dd_BM_type 34 rfl
def ld_BM_printed : List (Nat × Instr × Nat) := [(0, .iload_n 1, 1), (1, .ifCond .lt (20), 3), (4, .iload_n 1, 1), (5, .bipush (40), 2), (7, .if_icmp .ge (14), 3), (10, .iload_n 1, 1), (11, .aload_n 0, 1), (12, .getfield 27, 3), (15, .getfield 103, 3), (18, .if_icmp .lt (13), 3), (21, .new 78, 3), (24, .dup, 1), (25, .ldc 106, 2), (27, .invokespecial 82, 3), (30, .athrow, 1), (31, .aload_n 0, 1), (32, .getfield 27, 3), (35, .getfield 108, 3), (38, .iload_n 1, 1), (39, .daload, 1), (40, .dreturn, 1)]
theorem dd_BM_printed : (ld_BM_printed).all (dOK prog_1_method_7_code) = true := by decide +kernel
theorem d_BM_printed_0 : decode prog_1_method_7_code 0 = .ok (.iload_n 1, 1) := dd_at dd_BM_printed 0 rfl
theorem d_BM_printed_1 : decode prog_1_method_7_code 1 = .ok (.ifCond .lt (20), 3) := dd_at dd_BM_printed 1 rfl
theorem d_BM_printed_4 : decode prog_1_method_7_code 4 = .ok (.iload_n 1, 1) := dd_at dd_BM_printed 2 rfl
theorem d_BM_printed_5 : decode prog_1_method_7_code 5 = .ok (.bipush (40), 2) := dd_at dd_BM_printed 3 rfl
theorem d_BM_printed_7 : decode prog_1_method_7_code 7 = .ok (.if_icmp .ge (14), 3) := dd_at dd_BM_printed 4 rfl
theorem d_BM_printed_10 : decode prog_1_method_7_code 10 = .ok (.iload_n 1, 1) := dd_at dd_BM_printed 5 rfl
theorem d_BM_printed_11 : decode prog_1_method_7_code 11 = .ok (.aload_n 0, 1) := dd_at dd_BM_printed 6 rfl
theorem d_BM_printed_12 : decode prog_1_method_7_code 12 = .ok (.getfield 27, 3) := dd_at dd_BM_printed 7 rfl
theorem d_BM_printed_15 : decode prog_1_method_7_code 15 = .ok (.getfield 103, 3) := dd_at dd_BM_printed 8 rfl
theorem d_BM_printed_18 : decode prog_1_method_7_code 18 = .ok (.if_icmp .lt (13), 3) := dd_at dd_BM_printed 9 rfl
theorem d_BM_printed_21 : decode prog_1_method_7_code 21 = .ok (.new 78, 3) := dd_at dd_BM_printed 10 rfl
theorem d_BM_printed_24 : decode prog_1_method_7_code 24 = .ok (.dup, 1) := dd_at dd_BM_printed 11 rfl
theorem d_BM_printed_25 : decode prog_1_method_7_code 25 = .ok (.ldc 106, 2) := dd_at dd_BM_printed 12 rfl
theorem d_BM_printed_27 : decode prog_1_method_7_code 27 = .ok (.invokespecial 82, 3) := dd_at dd_BM_printed 13 rfl
theorem d_BM_printed_30 : decode prog_1_method_7_code 30 = .ok (.athrow, 1) := dd_at dd_BM_printed 14 rfl
theorem d_BM_printed_31 : decode prog_1_method_7_code 31 = .ok (.aload_n 0, 1) := dd_at dd_BM_printed 15 rfl
theorem d_BM_printed_32 : decode prog_1_method_7_code 32 = .ok (.getfield 27, 3) := dd_at dd_BM_printed 16 rfl
theorem d_BM_printed_35 : decode prog_1_method_7_code 35 = .ok (.getfield 108, 3) := dd_at dd_BM_printed 17 rfl
theorem d_BM_printed_38 : decode prog_1_method_7_code 38 = .ok (.iload_n 1, 1) := dd_at dd_BM_printed 18 rfl
theorem d_BM_printed_39 : decode prog_1_method_7_code 39 = .ok (.daload, 1) := dd_at dd_BM_printed 19 rfl
theorem d_BM_printed_40 : decode prog_1_method_7_code 40 = .ok (.dreturn, 1) := dd_at dd_BM_printed 20 rfl
def ld_BM_element : List (Nat × Instr × Nat) := [(0, .iload_n 1, 1), (1, .ifCond .lt (8), 3), (4, .iload_n 1, 1), (5, .iconst 2, 1), (6, .if_icmp .le (13), 3), (9, .new 31, 3), (12, .dup, 1), (13, .ldc 127, 2), (15, .invokespecial 35, 3), (18, .athrow, 1), (19, .aload_n 0, 1), (20, .getfield 27, 3), (23, .getfield 117, 3), (26, .iload_n 1, 1), (27, .invokevirtual 129, 3), (30, .astore 4, 2), (32, .aload 4, 2), (34, .iload_n 2, 1), (35, .i2l, 1), (36, .iload_n 3, 1), (37, .i2l, 1), (38, .invokevirtual 133, 3), (41, .istore 5, 2), (43, .iload 5, 2), (45, .ifCond .ge (13), 3), (48, .new 139, 3), (51, .dup, 1), (52, .ldc 141, 2), (54, .invokespecial 143, 3), (57, .athrow, 1), (58, .aload 4, 2), (60, .iload 5, 2), (62, .invokevirtual 144, 3), (65, .dreturn, 1)]
theorem dd_BM_element : (ld_BM_element).all (dOK prog_1_method_9_code) = true := by decide +kernel
theorem d_BM_element_0 : decode prog_1_method_9_code 0 = .ok (.iload_n 1, 1) := dd_at dd_BM_element 0 rfl
theorem d_BM_element_1 : decode prog_1_method_9_code 1 = .ok (.ifCond .lt (8), 3) := dd_at dd_BM_element 1 rfl
theorem d_BM_element_4 : decode prog_1_method_9_code 4 = .ok (.iload_n 1, 1) := dd_at dd_BM_element 2 rfl
theorem d_BM_element_5 : decode prog_1_method_9_code 5 = .ok (.iconst 2, 1) := dd_at dd_BM_element 3 rfl
theorem d_BM_element_6 : decode prog_1_method_9_code 6 = .ok (.if_icmp .le (13), 3) := dd_at dd_BM_element 4 rfl
theorem d_BM_element_9 : decode prog_1_method_9_code 9 = .ok (.new 31, 3) := dd_at dd_BM_element 5 rfl
theorem d_BM_element_12 : decode prog_1_method_9_code 12 = .ok (.dup, 1) := dd_at dd_BM_element 6 rfl
theorem d_BM_element_13 : decode prog_1_method_9_code 13 = .ok (.ldc 127, 2) := dd_at dd_BM_element 7 rfl
theorem d_BM_element_15 : decode prog_1_method_9_code 15 = .ok (.invokespecial 35, 3) := dd_at dd_BM_element 8 rfl
theorem d_BM_element_18 : decode prog_1_method_9_code 18 = .ok (.athrow, 1) := dd_at dd_BM_element 9 rfl
theorem d_BM_element_19 : decode prog_1_method_9_code 19 = .ok (.aload_n 0, 1) := dd_at dd_BM_element 10 rfl
theorem d_BM_element_20 : decode prog_1_method_9_code 20 = .ok (.getfield 27, 3) := dd_at dd_BM_element 11 rfl
theorem d_BM_element_23 : decode prog_1_method_9_code 23 = .ok (.getfield 117, 3) := dd_at dd_BM_element 12 rfl
theorem d_BM_element_26 : decode prog_1_method_9_code 26 = .ok (.iload_n 1, 1) := dd_at dd_BM_element 13 rfl
theorem d_BM_element_27 : decode prog_1_method_9_code 27 = .ok (.invokevirtual 129, 3) := dd_at dd_BM_element 14 rfl
theorem d_BM_element_30 : decode prog_1_method_9_code 30 = .ok (.astore 4, 2) := dd_at dd_BM_element 15 rfl
theorem d_BM_element_32 : decode prog_1_method_9_code 32 = .ok (.aload 4, 2) := dd_at dd_BM_element 16 rfl
theorem d_BM_element_34 : decode prog_1_method_9_code 34 = .ok (.iload_n 2, 1) := dd_at dd_BM_element 17 rfl
theorem d_BM_element_35 : decode prog_1_method_9_code 35 = .ok (.i2l, 1) := dd_at dd_BM_element 18 rfl
theorem d_BM_element_36 : decode prog_1_method_9_code 36 = .ok (.iload_n 3, 1) := dd_at dd_BM_element 19 rfl
theorem d_BM_element_37 : decode prog_1_method_9_code 37 = .ok (.i2l, 1) := dd_at dd_BM_element 20 rfl
theorem d_BM_element_38 : decode prog_1_method_9_code 38 = .ok (.invokevirtual 133, 3) := dd_at dd_BM_element 21 rfl
theorem d_BM_element_41 : decode prog_1_method_9_code 41 = .ok (.istore 5, 2) := dd_at dd_BM_element 22 rfl
theorem d_BM_element_43 : decode prog_1_method_9_code 43 = .ok (.iload 5, 2) := dd_at dd_BM_element 23 rfl
theorem d_BM_element_45 : decode prog_1_method_9_code 45 = .ok (.ifCond .ge (13), 3) := dd_at dd_BM_element 24 rfl
theorem d_BM_element_48 : decode prog_1_method_9_code 48 = .ok (.new 139, 3) := dd_at dd_BM_element 25 rfl
theorem d_BM_element_51 : decode prog_1_method_9_code 51 = .ok (.dup, 1) := dd_at dd_BM_element 26 rfl
theorem d_BM_element_52 : decode prog_1_method_9_code 52 = .ok (.ldc 141, 2) := dd_at dd_BM_element 27 rfl
theorem d_BM_element_54 : decode prog_1_method_9_code 54 = .ok (.invokespecial 143, 3) := dd_at dd_BM_element 28 rfl
theorem d_BM_element_57 : decode prog_1_method_9_code 57 = .ok (.athrow, 1) := dd_at dd_BM_element 29 rfl
theorem d_BM_element_58 : decode prog_1_method_9_code 58 = .ok (.aload 4, 2) := dd_at dd_BM_element 30 rfl
theorem d_BM_element_60 : decode prog_1_method_9_code 60 = .ok (.iload 5, 2) := dd_at dd_BM_element 31 rfl
theorem d_BM_element_62 : decode prog_1_method_9_code 62 = .ok (.invokevirtual 144, 3) := dd_at dd_BM_element 32 rfl
theorem d_BM_element_65 : decode prog_1_method_9_code 65 = .ok (.dreturn, 1) := dd_at dd_BM_element 33 rfl
def ld_BM_raise : List (Nat × Instr × Nat) := [(0, .getstatic 171, 3), (3, .aload_n 0, 1), (4, .invokevirtual 177, 3), (7, .iaload, 1), (8, .tableswitch (100) (1) (6) #[(40), (50), (60), (70), (80), (90)], 40), (48, .new 31, 3), (51, .dup, 1), (52, .ldc 183, 2), (54, .invokespecial 35, 3), (57, .athrow, 1), (58, .new 41, 3), (61, .dup, 1), (62, .ldc 185, 2), (64, .invokespecial 45, 3), (67, .athrow, 1), (68, .new 78, 3), (71, .dup, 1), (72, .ldc 187, 2), (74, .invokespecial 82, 3), (77, .athrow, 1), (78, .new 189, 3), (81, .dup, 1), (82, .ldc 191, 2), (84, .invokespecial 193, 3), (87, .athrow, 1), (88, .new 139, 3), (91, .dup, 1), (92, .ldc 141, 2), (94, .invokespecial 143, 3), (97, .athrow, 1), (98, .new 194, 3), (101, .dup, 1), (102, .ldc 196, 2), (104, .invokespecial 198, 3), (107, .athrow, 1), (108, .return_, 1)]
theorem dd_BM_raise : (ld_BM_raise).all (dOK prog_1_method_12_code) = true := by decide +kernel
theorem d_BM_raise_0 : decode prog_1_method_12_code 0 = .ok (.getstatic 171, 3) := dd_at dd_BM_raise 0 rfl
theorem d_BM_raise_3 : decode prog_1_method_12_code 3 = .ok (.aload_n 0, 1) := dd_at dd_BM_raise 1 rfl
theorem d_BM_raise_4 : decode prog_1_method_12_code 4 = .ok (.invokevirtual 177, 3) := dd_at dd_BM_raise 2 rfl
theorem d_BM_raise_7 : decode prog_1_method_12_code 7 = .ok (.iaload, 1) := dd_at dd_BM_raise 3 rfl
theorem d_BM_raise_8 : decode prog_1_method_12_code 8 = .ok (.tableswitch (100) (1) (6) #[(40), (50), (60), (70), (80), (90)], 40) := dd_at dd_BM_raise 4 rfl
theorem d_BM_raise_48 : decode prog_1_method_12_code 48 = .ok (.new 31, 3) := dd_at dd_BM_raise 5 rfl
theorem d_BM_raise_51 : decode prog_1_method_12_code 51 = .ok (.dup, 1) := dd_at dd_BM_raise 6 rfl
theorem d_BM_raise_52 : decode prog_1_method_12_code 52 = .ok (.ldc 183, 2) := dd_at dd_BM_raise 7 rfl
theorem d_BM_raise_54 : decode prog_1_method_12_code 54 = .ok (.invokespecial 35, 3) := dd_at dd_BM_raise 8 rfl
theorem d_BM_raise_57 : decode prog_1_method_12_code 57 = .ok (.athrow, 1) := dd_at dd_BM_raise 9 rfl
theorem d_BM_raise_58 : decode prog_1_method_12_code 58 = .ok (.new 41, 3) := dd_at dd_BM_raise 10 rfl
theorem d_BM_raise_61 : decode prog_1_method_12_code 61 = .ok (.dup, 1) := dd_at dd_BM_raise 11 rfl
theorem d_BM_raise_62 : decode prog_1_method_12_code 62 = .ok (.ldc 185, 2) := dd_at dd_BM_raise 12 rfl
theorem d_BM_raise_64 : decode prog_1_method_12_code 64 = .ok (.invokespecial 45, 3) := dd_at dd_BM_raise 13 rfl
theorem d_BM_raise_67 : decode prog_1_method_12_code 67 = .ok (.athrow, 1) := dd_at dd_BM_raise 14 rfl
theorem d_BM_raise_68 : decode prog_1_method_12_code 68 = .ok (.new 78, 3) := dd_at dd_BM_raise 15 rfl
theorem d_BM_raise_71 : decode prog_1_method_12_code 71 = .ok (.dup, 1) := dd_at dd_BM_raise 16 rfl
theorem d_BM_raise_72 : decode prog_1_method_12_code 72 = .ok (.ldc 187, 2) := dd_at dd_BM_raise 17 rfl
theorem d_BM_raise_74 : decode prog_1_method_12_code 74 = .ok (.invokespecial 82, 3) := dd_at dd_BM_raise 18 rfl
theorem d_BM_raise_77 : decode prog_1_method_12_code 77 = .ok (.athrow, 1) := dd_at dd_BM_raise 19 rfl
theorem d_BM_raise_78 : decode prog_1_method_12_code 78 = .ok (.new 189, 3) := dd_at dd_BM_raise 20 rfl
theorem d_BM_raise_81 : decode prog_1_method_12_code 81 = .ok (.dup, 1) := dd_at dd_BM_raise 21 rfl
theorem d_BM_raise_82 : decode prog_1_method_12_code 82 = .ok (.ldc 191, 2) := dd_at dd_BM_raise 22 rfl
theorem d_BM_raise_84 : decode prog_1_method_12_code 84 = .ok (.invokespecial 193, 3) := dd_at dd_BM_raise 23 rfl
theorem d_BM_raise_87 : decode prog_1_method_12_code 87 = .ok (.athrow, 1) := dd_at dd_BM_raise 24 rfl
theorem d_BM_raise_88 : decode prog_1_method_12_code 88 = .ok (.new 139, 3) := dd_at dd_BM_raise 25 rfl
theorem d_BM_raise_91 : decode prog_1_method_12_code 91 = .ok (.dup, 1) := dd_at dd_BM_raise 26 rfl
theorem d_BM_raise_92 : decode prog_1_method_12_code 92 = .ok (.ldc 141, 2) := dd_at dd_BM_raise 27 rfl
theorem d_BM_raise_94 : decode prog_1_method_12_code 94 = .ok (.invokespecial 143, 3) := dd_at dd_BM_raise 28 rfl
theorem d_BM_raise_97 : decode prog_1_method_12_code 97 = .ok (.athrow, 1) := dd_at dd_BM_raise 29 rfl
theorem d_BM_raise_98 : decode prog_1_method_12_code 98 = .ok (.new 194, 3) := dd_at dd_BM_raise 30 rfl
theorem d_BM_raise_101 : decode prog_1_method_12_code 101 = .ok (.dup, 1) := dd_at dd_BM_raise 31 rfl
theorem d_BM_raise_102 : decode prog_1_method_12_code 102 = .ok (.ldc 196, 2) := dd_at dd_BM_raise 32 rfl
theorem d_BM_raise_104 : decode prog_1_method_12_code 104 = .ok (.invokespecial 198, 3) := dd_at dd_BM_raise 33 rfl
theorem d_BM_raise_107 : decode prog_1_method_12_code 107 = .ok (.athrow, 1) := dd_at dd_BM_raise 34 rfl
theorem d_BM_raise_108 : decode prog_1_method_12_code 108 = .ok (.return_, 1) := dd_at dd_BM_raise 35 rfl
def ld_BM_variable : List (Nat × Instr × Nat) := [(0, .iload_n 1, 1), (1, .ifCond .lt (19), 3), (4, .iload_n 1, 1), (5, .bipush (26), 2), (7, .if_icmp .ge (13), 3), (10, .bipush (65), 2), (12, .iload_n 1, 1), (13, .iadd, 1), (14, .invokestatic 112, 3), (17, .ifCond .ne (13), 3), (20, .new 31, 3), (23, .dup, 1), (24, .ldc 115, 2), (26, .invokespecial 35, 3), (29, .athrow, 1), (30, .aload_n 0, 1), (31, .getfield 27, 3), (34, .getfield 117, 3), (37, .iload_n 1, 1), (38, .invokevirtual 121, 3), (41, .dreturn, 1)]
theorem dd_BM_variable : (ld_BM_variable).all (dOK prog_1_method_8_code) = true := by decide +kernel
theorem d_BM_variable_0 : decode prog_1_method_8_code 0 = .ok (.iload_n 1, 1) := dd_at dd_BM_variable 0 rfl
theorem d_BM_variable_1 : decode prog_1_method_8_code 1 = .ok (.ifCond .lt (19), 3) := dd_at dd_BM_variable 1 rfl
theorem d_BM_variable_4 : decode prog_1_method_8_code 4 = .ok (.iload_n 1, 1) := dd_at dd_BM_variable 2 rfl
theorem d_BM_variable_5 : decode prog_1_method_8_code 5 = .ok (.bipush (26), 2) := dd_at dd_BM_variable 3 rfl
theorem d_BM_variable_7 : decode prog_1_method_8_code 7 = .ok (.if_icmp .ge (13), 3) := dd_at dd_BM_variable 4 rfl
theorem d_BM_variable_10 : decode prog_1_method_8_code 10 = .ok (.bipush (65), 2) := dd_at dd_BM_variable 5 rfl
theorem d_BM_variable_12 : decode prog_1_method_8_code 12 = .ok (.iload_n 1, 1) := dd_at dd_BM_variable 6 rfl
theorem d_BM_variable_13 : decode prog_1_method_8_code 13 = .ok (.iadd, 1) := dd_at dd_BM_variable 7 rfl
theorem d_BM_variable_14 : decode prog_1_method_8_code 14 = .ok (.invokestatic 112, 3) := dd_at dd_BM_variable 8 rfl
theorem d_BM_variable_17 : decode prog_1_method_8_code 17 = .ok (.ifCond .ne (13), 3) := dd_at dd_BM_variable 9 rfl
theorem d_BM_variable_20 : decode prog_1_method_8_code 20 = .ok (.new 31, 3) := dd_at dd_BM_variable 10 rfl
theorem d_BM_variable_23 : decode prog_1_method_8_code 23 = .ok (.dup, 1) := dd_at dd_BM_variable 11 rfl
theorem d_BM_variable_24 : decode prog_1_method_8_code 24 = .ok (.ldc 115, 2) := dd_at dd_BM_variable 12 rfl
theorem d_BM_variable_26 : decode prog_1_method_8_code 26 = .ok (.invokespecial 35, 3) := dd_at dd_BM_variable 13 rfl
theorem d_BM_variable_29 : decode prog_1_method_8_code 29 = .ok (.athrow, 1) := dd_at dd_BM_variable 14 rfl
theorem d_BM_variable_30 : decode prog_1_method_8_code 30 = .ok (.aload_n 0, 1) := dd_at dd_BM_variable 15 rfl
theorem d_BM_variable_31 : decode prog_1_method_8_code 31 = .ok (.getfield 27, 3) := dd_at dd_BM_variable 16 rfl
theorem d_BM_variable_34 : decode prog_1_method_8_code 34 = .ok (.getfield 117, 3) := dd_at dd_BM_variable 17 rfl
theorem d_BM_variable_37 : decode prog_1_method_8_code 37 = .ok (.iload_n 1, 1) := dd_at dd_BM_variable 18 rfl
theorem d_BM_variable_38 : decode prog_1_method_8_code 38 = .ok (.invokevirtual 121, 3) := dd_at dd_BM_variable 19 rfl
theorem d_BM_variable_41 : decode prog_1_method_8_code 41 = .ok (.dreturn, 1) := dd_at dd_BM_variable 20 rfl
def ld_BM_run : List (Nat × Instr × Nat) := [(0, .aload_n 0, 1), (1, .getfield 27, 3), (4, .invokevirtual 92, 3), (7, .invokestatic 96, 3), (10, .aload_n 0, 1), (11, .getfield 27, 3), (14, .getfield 100, 3), (17, .ireturn, 1)]
theorem dd_BM_run : (ld_BM_run).all (dOK prog_1_method_6_code) = true := by decide +kernel
theorem d_BM_run_0 : decode prog_1_method_6_code 0 = .ok (.aload_n 0, 1) := dd_at dd_BM_run 0 rfl
theorem d_BM_run_1 : decode prog_1_method_6_code 1 = .ok (.getfield 27, 3) := dd_at dd_BM_run 1 rfl
theorem d_BM_run_4 : decode prog_1_method_6_code 4 = .ok (.invokevirtual 92, 3) := dd_at dd_BM_run 2 rfl
theorem d_BM_run_7 : decode prog_1_method_6_code 7 = .ok (.invokestatic 96, 3) := dd_at dd_BM_run 3 rfl
theorem d_BM_run_10 : decode prog_1_method_6_code 10 = .ok (.aload_n 0, 1) := dd_at dd_BM_run 4 rfl
theorem d_BM_run_11 : decode prog_1_method_6_code 11 = .ok (.getfield 27, 3) := dd_at dd_BM_run 5 rfl
theorem d_BM_run_14 : decode prog_1_method_6_code 14 = .ok (.getfield 100, 3) := dd_at dd_BM_run 6 rfl
theorem d_BM_run_17 : decode prog_1_method_6_code 17 = .ok (.ireturn, 1) := dd_at dd_BM_run 7 rfl
def ld_BM_enter : List (Nat × Instr × Nat) := [(0, .aload_n 0, 1), (1, .getfield 20, 3), (4, .aload_n 0, 1), (5, .getfield 9, 3), (8, .aload_n 0, 1), (9, .getfield 38, 3), (12, .invokevirtual 46, 3), (15, .istore_n 1, 1), (16, .aload_n 0, 1), (17, .iconst 0, 1), (18, .putfield 38, 3), (21, .aload_n 0, 1), (22, .iload_n 1, 1), (23, .ifCond .eq (7), 3), (26, .iconst (-1), 1), (27, .goto (10), 3), (30, .aload_n 0, 1), (31, .getfield 20, 3), (34, .getfield 50, 3), (37, .putfield 13, 3), (40, .iload_n 1, 1), (41, .ifCond .ne (13), 3), (44, .new 31, 3), (47, .dup, 1), (48, .ldc 53, 2), (50, .invokespecial 35, 3), (53, .athrow, 1), (54, .aload_n 0, 1), (55, .getfield 20, 3), (58, .getfield 55, 3), (61, .astore_n 2, 1), (62, .aload_n 2, 1), (63, .getfield 59, 3), (66, .ifCond .eq (41), 3), (69, .aload_n 0, 1), (70, .getfield 27, 3), (73, .getfield 65, 3), (76, .aload_n 2, 1), (77, .getfield 69, 3), (80, .invokevirtual 72, 3), (83, .ifCond .ne (13), 3), (86, .new 78, 3), (89, .dup, 1), (90, .ldc 80, 2), (92, .invokespecial 82, 3), (95, .athrow, 1), (96, .aload_n 0, 1), (97, .getfield 27, 3), (100, .getfield 65, 3), (103, .getfield 83, 3), (106, .ireturn, 1), (107, .aload_n 0, 1), (108, .getfield 27, 3), (111, .getfield 65, 3), (114, .aload_n 2, 1), (115, .invokevirtual 86, 3), (118, .astore_n 3, 1), (119, .aload_n 3, 1), (120, .ifnonnull (13), 3), (123, .new 41, 3), (126, .dup, 1), (127, .ldc 90, 2), (129, .invokespecial 45, 3), (132, .athrow, 1), (133, .aload_n 0, 1), (134, .getfield 20, 3), (137, .aload_n 3, 1), (138, .putfield 55, 3), (141, .aload_n 0, 1), (142, .getfield 27, 3), (145, .getfield 65, 3), (148, .getfield 83, 3), (151, .ireturn, 1)]
theorem dd_BM_enter : (ld_BM_enter).all (dOK prog_1_method_3_code) = true := by decide +kernel
theorem d_BM_enter_0 : decode prog_1_method_3_code 0 = .ok (.aload_n 0, 1) := dd_at dd_BM_enter 0 rfl
theorem d_BM_enter_1 : decode prog_1_method_3_code 1 = .ok (.getfield 20, 3) := dd_at dd_BM_enter 1 rfl
theorem d_BM_enter_4 : decode prog_1_method_3_code 4 = .ok (.aload_n 0, 1) := dd_at dd_BM_enter 2 rfl
theorem d_BM_enter_5 : decode prog_1_method_3_code 5 = .ok (.getfield 9, 3) := dd_at dd_BM_enter 3 rfl
theorem d_BM_enter_8 : decode prog_1_method_3_code 8 = .ok (.aload_n 0, 1) := dd_at dd_BM_enter 4 rfl
theorem d_BM_enter_9 : decode prog_1_method_3_code 9 = .ok (.getfield 38, 3) := dd_at dd_BM_enter 5 rfl
theorem d_BM_enter_12 : decode prog_1_method_3_code 12 = .ok (.invokevirtual 46, 3) := dd_at dd_BM_enter 6 rfl
theorem d_BM_enter_15 : decode prog_1_method_3_code 15 = .ok (.istore_n 1, 1) := dd_at dd_BM_enter 7 rfl
theorem d_BM_enter_16 : decode prog_1_method_3_code 16 = .ok (.aload_n 0, 1) := dd_at dd_BM_enter 8 rfl
theorem d_BM_enter_17 : decode prog_1_method_3_code 17 = .ok (.iconst 0, 1) := dd_at dd_BM_enter 9 rfl
theorem d_BM_enter_18 : decode prog_1_method_3_code 18 = .ok (.putfield 38, 3) := dd_at dd_BM_enter 10 rfl
theorem d_BM_enter_21 : decode prog_1_method_3_code 21 = .ok (.aload_n 0, 1) := dd_at dd_BM_enter 11 rfl
theorem d_BM_enter_22 : decode prog_1_method_3_code 22 = .ok (.iload_n 1, 1) := dd_at dd_BM_enter 12 rfl
theorem d_BM_enter_23 : decode prog_1_method_3_code 23 = .ok (.ifCond .eq (7), 3) := dd_at dd_BM_enter 13 rfl
theorem d_BM_enter_26 : decode prog_1_method_3_code 26 = .ok (.iconst (-1), 1) := dd_at dd_BM_enter 14 rfl
theorem d_BM_enter_27 : decode prog_1_method_3_code 27 = .ok (.goto (10), 3) := dd_at dd_BM_enter 15 rfl
theorem d_BM_enter_30 : decode prog_1_method_3_code 30 = .ok (.aload_n 0, 1) := dd_at dd_BM_enter 16 rfl
theorem d_BM_enter_31 : decode prog_1_method_3_code 31 = .ok (.getfield 20, 3) := dd_at dd_BM_enter 17 rfl
theorem d_BM_enter_34 : decode prog_1_method_3_code 34 = .ok (.getfield 50, 3) := dd_at dd_BM_enter 18 rfl
theorem d_BM_enter_37 : decode prog_1_method_3_code 37 = .ok (.putfield 13, 3) := dd_at dd_BM_enter 19 rfl
theorem d_BM_enter_40 : decode prog_1_method_3_code 40 = .ok (.iload_n 1, 1) := dd_at dd_BM_enter 20 rfl
theorem d_BM_enter_41 : decode prog_1_method_3_code 41 = .ok (.ifCond .ne (13), 3) := dd_at dd_BM_enter 21 rfl
theorem d_BM_enter_44 : decode prog_1_method_3_code 44 = .ok (.new 31, 3) := dd_at dd_BM_enter 22 rfl
theorem d_BM_enter_47 : decode prog_1_method_3_code 47 = .ok (.dup, 1) := dd_at dd_BM_enter 23 rfl
theorem d_BM_enter_48 : decode prog_1_method_3_code 48 = .ok (.ldc 53, 2) := dd_at dd_BM_enter 24 rfl
theorem d_BM_enter_50 : decode prog_1_method_3_code 50 = .ok (.invokespecial 35, 3) := dd_at dd_BM_enter 25 rfl
theorem d_BM_enter_53 : decode prog_1_method_3_code 53 = .ok (.athrow, 1) := dd_at dd_BM_enter 26 rfl
theorem d_BM_enter_54 : decode prog_1_method_3_code 54 = .ok (.aload_n 0, 1) := dd_at dd_BM_enter 27 rfl
theorem d_BM_enter_55 : decode prog_1_method_3_code 55 = .ok (.getfield 20, 3) := dd_at dd_BM_enter 28 rfl
theorem d_BM_enter_58 : decode prog_1_method_3_code 58 = .ok (.getfield 55, 3) := dd_at dd_BM_enter 29 rfl
theorem d_BM_enter_61 : decode prog_1_method_3_code 61 = .ok (.astore_n 2, 1) := dd_at dd_BM_enter 30 rfl
theorem d_BM_enter_62 : decode prog_1_method_3_code 62 = .ok (.aload_n 2, 1) := dd_at dd_BM_enter 31 rfl
theorem d_BM_enter_63 : decode prog_1_method_3_code 63 = .ok (.getfield 59, 3) := dd_at dd_BM_enter 32 rfl
theorem d_BM_enter_66 : decode prog_1_method_3_code 66 = .ok (.ifCond .eq (41), 3) := dd_at dd_BM_enter 33 rfl
theorem d_BM_enter_69 : decode prog_1_method_3_code 69 = .ok (.aload_n 0, 1) := dd_at dd_BM_enter 34 rfl
theorem d_BM_enter_70 : decode prog_1_method_3_code 70 = .ok (.getfield 27, 3) := dd_at dd_BM_enter 35 rfl
theorem d_BM_enter_73 : decode prog_1_method_3_code 73 = .ok (.getfield 65, 3) := dd_at dd_BM_enter 36 rfl
theorem d_BM_enter_76 : decode prog_1_method_3_code 76 = .ok (.aload_n 2, 1) := dd_at dd_BM_enter 37 rfl
theorem d_BM_enter_77 : decode prog_1_method_3_code 77 = .ok (.getfield 69, 3) := dd_at dd_BM_enter 38 rfl
theorem d_BM_enter_80 : decode prog_1_method_3_code 80 = .ok (.invokevirtual 72, 3) := dd_at dd_BM_enter 39 rfl
theorem d_BM_enter_83 : decode prog_1_method_3_code 83 = .ok (.ifCond .ne (13), 3) := dd_at dd_BM_enter 40 rfl
theorem d_BM_enter_86 : decode prog_1_method_3_code 86 = .ok (.new 78, 3) := dd_at dd_BM_enter 41 rfl
theorem d_BM_enter_89 : decode prog_1_method_3_code 89 = .ok (.dup, 1) := dd_at dd_BM_enter 42 rfl
theorem d_BM_enter_90 : decode prog_1_method_3_code 90 = .ok (.ldc 80, 2) := dd_at dd_BM_enter 43 rfl
theorem d_BM_enter_92 : decode prog_1_method_3_code 92 = .ok (.invokespecial 82, 3) := dd_at dd_BM_enter 44 rfl
theorem d_BM_enter_95 : decode prog_1_method_3_code 95 = .ok (.athrow, 1) := dd_at dd_BM_enter 45 rfl
theorem d_BM_enter_96 : decode prog_1_method_3_code 96 = .ok (.aload_n 0, 1) := dd_at dd_BM_enter 46 rfl
theorem d_BM_enter_97 : decode prog_1_method_3_code 97 = .ok (.getfield 27, 3) := dd_at dd_BM_enter 47 rfl
theorem d_BM_enter_100 : decode prog_1_method_3_code 100 = .ok (.getfield 65, 3) := dd_at dd_BM_enter 48 rfl
theorem d_BM_enter_103 : decode prog_1_method_3_code 103 = .ok (.getfield 83, 3) := dd_at dd_BM_enter 49 rfl
theorem d_BM_enter_106 : decode prog_1_method_3_code 106 = .ok (.ireturn, 1) := dd_at dd_BM_enter 50 rfl
theorem d_BM_enter_107 : decode prog_1_method_3_code 107 = .ok (.aload_n 0, 1) := dd_at dd_BM_enter 51 rfl
theorem d_BM_enter_108 : decode prog_1_method_3_code 108 = .ok (.getfield 27, 3) := dd_at dd_BM_enter 52 rfl
theorem d_BM_enter_111 : decode prog_1_method_3_code 111 = .ok (.getfield 65, 3) := dd_at dd_BM_enter 53 rfl
theorem d_BM_enter_114 : decode prog_1_method_3_code 114 = .ok (.aload_n 2, 1) := dd_at dd_BM_enter 54 rfl
theorem d_BM_enter_115 : decode prog_1_method_3_code 115 = .ok (.invokevirtual 86, 3) := dd_at dd_BM_enter 55 rfl
theorem d_BM_enter_118 : decode prog_1_method_3_code 118 = .ok (.astore_n 3, 1) := dd_at dd_BM_enter 56 rfl
theorem d_BM_enter_119 : decode prog_1_method_3_code 119 = .ok (.aload_n 3, 1) := dd_at dd_BM_enter 57 rfl
theorem d_BM_enter_120 : decode prog_1_method_3_code 120 = .ok (.ifnonnull (13), 3) := dd_at dd_BM_enter 58 rfl
theorem d_BM_enter_123 : decode prog_1_method_3_code 123 = .ok (.new 41, 3) := dd_at dd_BM_enter 59 rfl
theorem d_BM_enter_126 : decode prog_1_method_3_code 126 = .ok (.dup, 1) := dd_at dd_BM_enter 60 rfl
theorem d_BM_enter_127 : decode prog_1_method_3_code 127 = .ok (.ldc 90, 2) := dd_at dd_BM_enter 61 rfl
theorem d_BM_enter_129 : decode prog_1_method_3_code 129 = .ok (.invokespecial 45, 3) := dd_at dd_BM_enter 62 rfl
theorem d_BM_enter_132 : decode prog_1_method_3_code 132 = .ok (.athrow, 1) := dd_at dd_BM_enter 63 rfl
theorem d_BM_enter_133 : decode prog_1_method_3_code 133 = .ok (.aload_n 0, 1) := dd_at dd_BM_enter 64 rfl
theorem d_BM_enter_134 : decode prog_1_method_3_code 134 = .ok (.getfield 20, 3) := dd_at dd_BM_enter 65 rfl
theorem d_BM_enter_137 : decode prog_1_method_3_code 137 = .ok (.aload_n 3, 1) := dd_at dd_BM_enter 66 rfl
theorem d_BM_enter_138 : decode prog_1_method_3_code 138 = .ok (.putfield 55, 3) := dd_at dd_BM_enter 67 rfl
theorem d_BM_enter_141 : decode prog_1_method_3_code 141 = .ok (.aload_n 0, 1) := dd_at dd_BM_enter 68 rfl
theorem d_BM_enter_142 : decode prog_1_method_3_code 142 = .ok (.getfield 27, 3) := dd_at dd_BM_enter 69 rfl
theorem d_BM_enter_145 : decode prog_1_method_3_code 145 = .ok (.getfield 65, 3) := dd_at dd_BM_enter 70 rfl
theorem d_BM_enter_148 : decode prog_1_method_3_code 148 = .ok (.getfield 83, 3) := dd_at dd_BM_enter 71 rfl
theorem d_BM_enter_151 : decode prog_1_method_3_code 151 = .ok (.ireturn, 1) := dd_at dd_BM_enter 72 rfl
def y_BM_type : MethodName := ⟨"BasicMachine", "type", "(I)I"⟩
theorem fl_BM_9 : FLk "BasicMachine" 9 1 0 := ⟨cf1, by decide, in_tbl 305 (by decide +kernel)⟩
def y_BM_printed : MethodName := ⟨"BasicMachine", "printed", "(I)D"⟩
theorem fl_BM_108 : FLk "BasicMachine" 108 4 3 := ⟨cf4, by decide, in_tbl 255 (by decide +kernel)⟩
def y_BM_element : MethodName := ⟨"BasicMachine", "element", "(III)D"⟩
theorem fl_BM_117 : FLk "BasicMachine" 117 4 1 := ⟨cf4, by decide, in_tbl 251 (by decide +kernel)⟩
theorem lk_BM_129 : Cond.methodLink "BasicMachine" 129 y_Ca_matrixAt ∈ gtb := in_tbl 1156 (by decide +kernel)
theorem lk_BM_133 : Cond.methodLink "BasicMachine" 133 y_Mx_placeOf ∈ gtb := in_tbl 1157 (by decide +kernel)
theorem lk_BM_144 : Cond.methodLink "BasicMachine" 144 y_Mx_get ∈ gtb := in_tbl 1158 (by decide +kernel)
def y_BM_raise : MethodName := ⟨"BasicMachine", "raise", "(LBasicMachine$Fault;)V"⟩
theorem ls_BM_171 : Cond.fieldLink "BasicMachine" 171 "BasicMachine$1" "$SwitchMap$BasicMachine$Fault" "[I" ∈ gtb := in_tbl 1074 (by decide +kernel)
theorem lk_BM_177 : Cond.methodLink "BasicMachine" 177 ⟨"BasicMachine$Fault", "ordinal", "()I"⟩ ∈ gtb := in_tbl 1076 (by decide +kernel)
theorem so_Fault : Cond.sameMethod "BasicMachine$Fault" "java/lang/Enum" "ordinal" "()I" ∈ gtb := in_tbl 1077 (by decide +kernel)
theorem so_Faultb : Cond.selects "BasicMachine$Fault" ⟨"BasicMachine$Fault", "ordinal", "()I"⟩ y_ord ∈ gtb := in_tbl 1078 (by decide +kernel)
def y_BM_variable : MethodName := ⟨"BasicMachine", "variable", "(I)D"⟩
theorem lk_BM_112 : Cond.methodLink "BasicMachine" 112 y_BM_isVariable ∈ gtb := in_tbl 1145 (by decide +kernel)
theorem lk_BM_121 : Cond.methodLink "BasicMachine" 121 y_Ca_get ∈ gtb := in_tbl 1147 (by decide +kernel)
def y_BM_run : MethodName := ⟨"BasicMachine", "run", "()I"⟩
theorem lk_BM_92 : Cond.methodLink "BasicMachine" 92 y_Ma_execute ∈ gtb := in_tbl 775 (by decide +kernel)
theorem mf_Ma_execute : MFi y_Ma_execute prog_8_method_2_code 2 (some (.object "BasicMachine$Fault")) 0 := ⟨in_tbl 778 (by decide +kernel), in_tbl 776 (by decide +kernel), in_tbl 777 (by decide +kernel), in_tbl 7 (by decide +kernel), by decide, by decide, by decide +kernel⟩
theorem lk_BM_96 : Cond.methodLink "BasicMachine" 96 y_BM_raise ∈ gtb := in_tbl 1071 (by decide +kernel)
theorem mf_BM_raise : MFs y_BM_raise prog_1_method_12_code 1 none 1 := ⟨in_tbl 1073 (by decide +kernel), in_tbl 1072 (by decide +kernel), in_tbl 1 (by decide +kernel), by decide, by decide, by decide +kernel⟩
def y_BM_enter : MethodName := ⟨"BasicMachine", "enter", "()I"⟩
theorem fl_BM_20 : FLk "BasicMachine" 20 1 3 := ⟨cf1, by decide, in_tbl 308 (by decide +kernel)⟩
theorem lk_BM_46 : Cond.methodLink "BasicMachine" 46 y_Pa_takeApart ∈ gtb := in_tbl 449 (by decide +kernel)
theorem mf_Pa_takeApart : MFi y_Pa_takeApart prog_10_method_2_code 3 (some .boolean) 2 := ⟨in_tbl 452 (by decide +kernel), in_tbl 450 (by decide +kernel), in_tbl 451 (by decide +kernel), in_tbl 2 (by decide +kernel), by decide, by decide, by decide +kernel⟩
theorem fl_BM_50 : FLk "BasicMachine" 50 2 1 := ⟨cf2, by decide, in_tbl 125 (by decide +kernel)⟩
theorem fl_BM_55 : FLk "BasicMachine" 55 2 0 := ⟨cf2, by decide, in_tbl 123 (by decide +kernel)⟩
theorem fl_BM_59 : FLk "BasicMachine" 59 3 1 := ⟨cf3, by decide, in_tbl 61 (by decide +kernel)⟩
theorem lk_BM_86 : Cond.methodLink "BasicMachine" 86 y_Pr_put ∈ gtb := in_tbl 756 (by decide +kernel)
theorem mf_Pr_put : MFi y_Pr_put prog_11_method_6_code 6 (some (.object "BasicMachine$Line")) 1 := ⟨in_tbl 759 (by decide +kernel), in_tbl 757 (by decide +kernel), in_tbl 758 (by decide +kernel), in_tbl 8 (by decide +kernel), by decide, by decide, by decide +kernel⟩
theorem fl_BM_69 : FLk "BasicMachine" 69 3 0 := ⟨cf3, by decide, in_tbl 58 (by decide +kernel)⟩
theorem lk_BM_72 : Cond.methodLink "BasicMachine" 72 y_Pr_remove ∈ gtb := in_tbl 731 (by decide +kernel)
theorem mf_Pr_remove : MFi y_Pr_remove prog_11_method_7_code 5 (some .boolean) 1 := ⟨in_tbl 734 (by decide +kernel), in_tbl 732 (by decide +kernel), in_tbl 733 (by decide +kernel), in_tbl 8 (by decide +kernel), by decide, by decide, by decide +kernel⟩
