def ld_Li_init : List (Nat × Instr × Nat) := [(0, .aload_n 0, 1), (1, .invokespecial 3, 3), (4, .aload_n 0, 1), (5, .getstatic 9, 3), (8, .putfield 15, 3), (11, .aload_n 0, 1), (12, .getstatic 20, 3), (15, .putfield 26, 3), (18, .aload_n 0, 1), (19, .bipush (6), 2), (21, .newarray .int, 2), (23, .putfield 29, 3), (26, .aload_n 0, 1), (27, .bipush (60), 2), (29, .newarray .int, 2), (31, .putfield 33, 3), (34, .aload_n 0, 1), (35, .bipush (60), 2), (37, .newarray .int, 2), (39, .putfield 36, 3), (42, .aload_n 0, 1), (43, .iconst 3, 1), (44, .newarray .int, 2), (46, .putfield 39, 3), (49, .return_, 1)]
theorem dd_Li_init : (ld_Li_init).all (dOK prog_6_method_1_code) = true := by decide +kernel
theorem d_Li_init_0 : decode prog_6_method_1_code 0 = .ok (.aload_n 0, 1) := dd_at dd_Li_init 0 rfl
theorem d_Li_init_1 : decode prog_6_method_1_code 1 = .ok (.invokespecial 3, 3) := dd_at dd_Li_init 1 rfl
theorem d_Li_init_4 : decode prog_6_method_1_code 4 = .ok (.aload_n 0, 1) := dd_at dd_Li_init 2 rfl
theorem d_Li_init_5 : decode prog_6_method_1_code 5 = .ok (.getstatic 9, 3) := dd_at dd_Li_init 3 rfl
theorem d_Li_init_8 : decode prog_6_method_1_code 8 = .ok (.putfield 15, 3) := dd_at dd_Li_init 4 rfl
theorem d_Li_init_11 : decode prog_6_method_1_code 11 = .ok (.aload_n 0, 1) := dd_at dd_Li_init 5 rfl
theorem d_Li_init_12 : decode prog_6_method_1_code 12 = .ok (.getstatic 20, 3) := dd_at dd_Li_init 6 rfl
theorem d_Li_init_15 : decode prog_6_method_1_code 15 = .ok (.putfield 26, 3) := dd_at dd_Li_init 7 rfl
theorem d_Li_init_18 : decode prog_6_method_1_code 18 = .ok (.aload_n 0, 1) := dd_at dd_Li_init 8 rfl
theorem d_Li_init_19 : decode prog_6_method_1_code 19 = .ok (.bipush (6), 2) := dd_at dd_Li_init 9 rfl
theorem d_Li_init_21 : decode prog_6_method_1_code 21 = .ok (.newarray .int, 2) := dd_at dd_Li_init 10 rfl
theorem d_Li_init_23 : decode prog_6_method_1_code 23 = .ok (.putfield 29, 3) := dd_at dd_Li_init 11 rfl
theorem d_Li_init_26 : decode prog_6_method_1_code 26 = .ok (.aload_n 0, 1) := dd_at dd_Li_init 12 rfl
theorem d_Li_init_27 : decode prog_6_method_1_code 27 = .ok (.bipush (60), 2) := dd_at dd_Li_init 13 rfl
theorem d_Li_init_29 : decode prog_6_method_1_code 29 = .ok (.newarray .int, 2) := dd_at dd_Li_init 14 rfl
theorem d_Li_init_31 : decode prog_6_method_1_code 31 = .ok (.putfield 33, 3) := dd_at dd_Li_init 15 rfl
theorem d_Li_init_34 : decode prog_6_method_1_code 34 = .ok (.aload_n 0, 1) := dd_at dd_Li_init 16 rfl
theorem d_Li_init_35 : decode prog_6_method_1_code 35 = .ok (.bipush (60), 2) := dd_at dd_Li_init 17 rfl
theorem d_Li_init_37 : decode prog_6_method_1_code 37 = .ok (.newarray .int, 2) := dd_at dd_Li_init 18 rfl
theorem d_Li_init_39 : decode prog_6_method_1_code 39 = .ok (.putfield 36, 3) := dd_at dd_Li_init 19 rfl
theorem d_Li_init_42 : decode prog_6_method_1_code 42 = .ok (.aload_n 0, 1) := dd_at dd_Li_init 20 rfl
theorem d_Li_init_43 : decode prog_6_method_1_code 43 = .ok (.iconst 3, 1) := dd_at dd_Li_init 21 rfl
theorem d_Li_init_44 : decode prog_6_method_1_code 44 = .ok (.newarray .int, 2) := dd_at dd_Li_init 22 rfl
theorem d_Li_init_46 : decode prog_6_method_1_code 46 = .ok (.putfield 39, 3) := dd_at dd_Li_init 23 rfl
theorem d_Li_init_49 : decode prog_6_method_1_code 49 = .ok (.return_, 1) := dd_at dd_Li_init 24 rfl
def ld_Mx_init : List (Nat × Instr × Nat) := [(0, .aload_n 0, 1), (1, .invokespecial 3, 3), (4, .aload_n 0, 1), (5, .bipush (36), 2), (7, .newarray .double, 2), (9, .putfield 9, 3), (12, .return_, 1)]
theorem dd_Mx_init : (ld_Mx_init).all (dOK prog_9_method_1_code) = true := by decide +kernel
theorem d_Mx_init_0 : decode prog_9_method_1_code 0 = .ok (.aload_n 0, 1) := dd_at dd_Mx_init 0 rfl
theorem d_Mx_init_1 : decode prog_9_method_1_code 1 = .ok (.invokespecial 3, 3) := dd_at dd_Mx_init 1 rfl
theorem d_Mx_init_4 : decode prog_9_method_1_code 4 = .ok (.aload_n 0, 1) := dd_at dd_Mx_init 2 rfl
theorem d_Mx_init_5 : decode prog_9_method_1_code 5 = .ok (.bipush (36), 2) := dd_at dd_Mx_init 3 rfl
theorem d_Mx_init_7 : decode prog_9_method_1_code 7 = .ok (.newarray .double, 2) := dd_at dd_Mx_init 4 rfl
theorem d_Mx_init_9 : decode prog_9_method_1_code 9 = .ok (.putfield 9, 3) := dd_at dd_Mx_init 5 rfl
theorem d_Mx_init_12 : decode prog_9_method_1_code 12 = .ok (.return_, 1) := dd_at dd_Mx_init 6 rfl
def ld_Lo_init : List (Nat × Instr × Nat) := [(0, .aload_n 0, 1), (1, .invokespecial 3, 3), (4, .aload_n 0, 1), (5, .bipush (6), 2), (7, .newarray .int, 2), (9, .putfield 9, 3), (12, .aload_n 0, 1), (13, .bipush (6), 2), (15, .newarray .int, 2), (17, .putfield 15, 3), (20, .aload_n 0, 1), (21, .bipush (6), 2), (23, .newarray .double, 2), (25, .putfield 18, 3), (28, .aload_n 0, 1), (29, .bipush (6), 2), (31, .newarray .double, 2), (33, .putfield 22, 3), (36, .return_, 1)]
theorem dd_Lo_init : (ld_Lo_init).all (dOK prog_7_method_1_code) = true := by decide +kernel
theorem d_Lo_init_0 : decode prog_7_method_1_code 0 = .ok (.aload_n 0, 1) := dd_at dd_Lo_init 0 rfl
theorem d_Lo_init_1 : decode prog_7_method_1_code 1 = .ok (.invokespecial 3, 3) := dd_at dd_Lo_init 1 rfl
theorem d_Lo_init_4 : decode prog_7_method_1_code 4 = .ok (.aload_n 0, 1) := dd_at dd_Lo_init 2 rfl
theorem d_Lo_init_5 : decode prog_7_method_1_code 5 = .ok (.bipush (6), 2) := dd_at dd_Lo_init 3 rfl
theorem d_Lo_init_7 : decode prog_7_method_1_code 7 = .ok (.newarray .int, 2) := dd_at dd_Lo_init 4 rfl
theorem d_Lo_init_9 : decode prog_7_method_1_code 9 = .ok (.putfield 9, 3) := dd_at dd_Lo_init 5 rfl
theorem d_Lo_init_12 : decode prog_7_method_1_code 12 = .ok (.aload_n 0, 1) := dd_at dd_Lo_init 6 rfl
theorem d_Lo_init_13 : decode prog_7_method_1_code 13 = .ok (.bipush (6), 2) := dd_at dd_Lo_init 7 rfl
theorem d_Lo_init_15 : decode prog_7_method_1_code 15 = .ok (.newarray .int, 2) := dd_at dd_Lo_init 8 rfl
theorem d_Lo_init_17 : decode prog_7_method_1_code 17 = .ok (.putfield 15, 3) := dd_at dd_Lo_init 9 rfl
theorem d_Lo_init_20 : decode prog_7_method_1_code 20 = .ok (.aload_n 0, 1) := dd_at dd_Lo_init 10 rfl
theorem d_Lo_init_21 : decode prog_7_method_1_code 21 = .ok (.bipush (6), 2) := dd_at dd_Lo_init 11 rfl
theorem d_Lo_init_23 : decode prog_7_method_1_code 23 = .ok (.newarray .double, 2) := dd_at dd_Lo_init 12 rfl
theorem d_Lo_init_25 : decode prog_7_method_1_code 25 = .ok (.putfield 18, 3) := dd_at dd_Lo_init 13 rfl
theorem d_Lo_init_28 : decode prog_7_method_1_code 28 = .ok (.aload_n 0, 1) := dd_at dd_Lo_init 14 rfl
theorem d_Lo_init_29 : decode prog_7_method_1_code 29 = .ok (.bipush (6), 2) := dd_at dd_Lo_init 15 rfl
theorem d_Lo_init_31 : decode prog_7_method_1_code 31 = .ok (.newarray .double, 2) := dd_at dd_Lo_init 16 rfl
theorem d_Lo_init_33 : decode prog_7_method_1_code 33 = .ok (.putfield 22, 3) := dd_at dd_Lo_init 17 rfl
theorem d_Lo_init_36 : decode prog_7_method_1_code 36 = .ok (.return_, 1) := dd_at dd_Lo_init 18 rfl
def ld_Pa_init : List (Nat × Instr × Nat) := [(0, .aload_n 0, 1), (1, .invokespecial 3, 3), (4, .aload_n 0, 1), (5, .new 9, 3), (8, .dup, 1), (9, .invokespecial 11, 3), (12, .putfield 12, 3), (15, .aload_n 0, 1), (16, .bipush (60), 2), (18, .newarray .char, 2), (20, .putfield 18, 3), (23, .return_, 1)]
theorem dd_Pa_init : (ld_Pa_init).all (dOK prog_10_method_1_code) = true := by decide +kernel
theorem d_Pa_init_0 : decode prog_10_method_1_code 0 = .ok (.aload_n 0, 1) := dd_at dd_Pa_init 0 rfl
theorem d_Pa_init_1 : decode prog_10_method_1_code 1 = .ok (.invokespecial 3, 3) := dd_at dd_Pa_init 1 rfl
theorem d_Pa_init_4 : decode prog_10_method_1_code 4 = .ok (.aload_n 0, 1) := dd_at dd_Pa_init 2 rfl
theorem d_Pa_init_5 : decode prog_10_method_1_code 5 = .ok (.new 9, 3) := dd_at dd_Pa_init 3 rfl
theorem d_Pa_init_8 : decode prog_10_method_1_code 8 = .ok (.dup, 1) := dd_at dd_Pa_init 4 rfl
theorem d_Pa_init_9 : decode prog_10_method_1_code 9 = .ok (.invokespecial 11, 3) := dd_at dd_Pa_init 5 rfl
theorem d_Pa_init_12 : decode prog_10_method_1_code 12 = .ok (.putfield 12, 3) := dd_at dd_Pa_init 6 rfl
theorem d_Pa_init_15 : decode prog_10_method_1_code 15 = .ok (.aload_n 0, 1) := dd_at dd_Pa_init 7 rfl
theorem d_Pa_init_16 : decode prog_10_method_1_code 16 = .ok (.bipush (60), 2) := dd_at dd_Pa_init 8 rfl
theorem d_Pa_init_18 : decode prog_10_method_1_code 18 = .ok (.newarray .char, 2) := dd_at dd_Pa_init 9 rfl
theorem d_Pa_init_20 : decode prog_10_method_1_code 20 = .ok (.putfield 18, 3) := dd_at dd_Pa_init 10 rfl
theorem d_Pa_init_23 : decode prog_10_method_1_code 23 = .ok (.return_, 1) := dd_at dd_Pa_init 11 rfl
def ld_Ca_init : List (Nat × Instr × Nat) := [(0, .aload_n 0, 1), (1, .invokespecial 3, 3), (4, .aload_n 0, 1), (5, .getstatic 9, 3), (8, .putfield 15, 3), (11, .aload_n 0, 1), (12, .bipush (26), 2), (14, .newarray .double, 2), (16, .putfield 20, 3), (19, .aload_n 0, 1), (20, .new 24, 3), (23, .dup, 1), (24, .invokespecial 26, 3), (27, .putfield 27, 3), (30, .aload_n 0, 1), (31, .new 24, 3), (34, .dup, 1), (35, .invokespecial 26, 3), (38, .putfield 31, 3), (41, .aload_n 0, 1), (42, .new 24, 3), (45, .dup, 1), (46, .invokespecial 26, 3), (49, .putfield 34, 3), (52, .aload_n 0, 1), (53, .new 24, 3), (56, .dup, 1), (57, .invokespecial 26, 3), (60, .putfield 37, 3), (63, .aload_n 0, 1), (64, .iconst 3, 1), (65, .anewarray 40, 3), (68, .putfield 42, 3), (71, .aload_n 0, 1), (72, .sipush (240), 3), (75, .newarray .double, 2), (77, .putfield 46, 3), (80, .return_, 1)]
theorem dd_Ca_init : (ld_Ca_init).all (dOK prog_3_method_1_code) = true := by decide +kernel
theorem d_Ca_init_0 : decode prog_3_method_1_code 0 = .ok (.aload_n 0, 1) := dd_at dd_Ca_init 0 rfl
theorem d_Ca_init_1 : decode prog_3_method_1_code 1 = .ok (.invokespecial 3, 3) := dd_at dd_Ca_init 1 rfl
theorem d_Ca_init_4 : decode prog_3_method_1_code 4 = .ok (.aload_n 0, 1) := dd_at dd_Ca_init 2 rfl
theorem d_Ca_init_5 : decode prog_3_method_1_code 5 = .ok (.getstatic 9, 3) := dd_at dd_Ca_init 3 rfl
theorem d_Ca_init_8 : decode prog_3_method_1_code 8 = .ok (.putfield 15, 3) := dd_at dd_Ca_init 4 rfl
theorem d_Ca_init_11 : decode prog_3_method_1_code 11 = .ok (.aload_n 0, 1) := dd_at dd_Ca_init 5 rfl
theorem d_Ca_init_12 : decode prog_3_method_1_code 12 = .ok (.bipush (26), 2) := dd_at dd_Ca_init 6 rfl
theorem d_Ca_init_14 : decode prog_3_method_1_code 14 = .ok (.newarray .double, 2) := dd_at dd_Ca_init 7 rfl
theorem d_Ca_init_16 : decode prog_3_method_1_code 16 = .ok (.putfield 20, 3) := dd_at dd_Ca_init 8 rfl
theorem d_Ca_init_19 : decode prog_3_method_1_code 19 = .ok (.aload_n 0, 1) := dd_at dd_Ca_init 9 rfl
theorem d_Ca_init_20 : decode prog_3_method_1_code 20 = .ok (.new 24, 3) := dd_at dd_Ca_init 10 rfl
theorem d_Ca_init_23 : decode prog_3_method_1_code 23 = .ok (.dup, 1) := dd_at dd_Ca_init 11 rfl
theorem d_Ca_init_24 : decode prog_3_method_1_code 24 = .ok (.invokespecial 26, 3) := dd_at dd_Ca_init 12 rfl
theorem d_Ca_init_27 : decode prog_3_method_1_code 27 = .ok (.putfield 27, 3) := dd_at dd_Ca_init 13 rfl
theorem d_Ca_init_30 : decode prog_3_method_1_code 30 = .ok (.aload_n 0, 1) := dd_at dd_Ca_init 14 rfl
theorem d_Ca_init_31 : decode prog_3_method_1_code 31 = .ok (.new 24, 3) := dd_at dd_Ca_init 15 rfl
theorem d_Ca_init_34 : decode prog_3_method_1_code 34 = .ok (.dup, 1) := dd_at dd_Ca_init 16 rfl
theorem d_Ca_init_35 : decode prog_3_method_1_code 35 = .ok (.invokespecial 26, 3) := dd_at dd_Ca_init 17 rfl
theorem d_Ca_init_38 : decode prog_3_method_1_code 38 = .ok (.putfield 31, 3) := dd_at dd_Ca_init 18 rfl
theorem d_Ca_init_41 : decode prog_3_method_1_code 41 = .ok (.aload_n 0, 1) := dd_at dd_Ca_init 19 rfl
theorem d_Ca_init_42 : decode prog_3_method_1_code 42 = .ok (.new 24, 3) := dd_at dd_Ca_init 20 rfl
theorem d_Ca_init_45 : decode prog_3_method_1_code 45 = .ok (.dup, 1) := dd_at dd_Ca_init 21 rfl
theorem d_Ca_init_46 : decode prog_3_method_1_code 46 = .ok (.invokespecial 26, 3) := dd_at dd_Ca_init 22 rfl
theorem d_Ca_init_49 : decode prog_3_method_1_code 49 = .ok (.putfield 34, 3) := dd_at dd_Ca_init 23 rfl
theorem d_Ca_init_52 : decode prog_3_method_1_code 52 = .ok (.aload_n 0, 1) := dd_at dd_Ca_init 24 rfl
theorem d_Ca_init_53 : decode prog_3_method_1_code 53 = .ok (.new 24, 3) := dd_at dd_Ca_init 25 rfl
theorem d_Ca_init_56 : decode prog_3_method_1_code 56 = .ok (.dup, 1) := dd_at dd_Ca_init 26 rfl
theorem d_Ca_init_57 : decode prog_3_method_1_code 57 = .ok (.invokespecial 26, 3) := dd_at dd_Ca_init 27 rfl
theorem d_Ca_init_60 : decode prog_3_method_1_code 60 = .ok (.putfield 37, 3) := dd_at dd_Ca_init 28 rfl
theorem d_Ca_init_63 : decode prog_3_method_1_code 63 = .ok (.aload_n 0, 1) := dd_at dd_Ca_init 29 rfl
theorem d_Ca_init_64 : decode prog_3_method_1_code 64 = .ok (.iconst 3, 1) := dd_at dd_Ca_init 30 rfl
theorem d_Ca_init_65 : decode prog_3_method_1_code 65 = .ok (.anewarray 40, 3) := dd_at dd_Ca_init 31 rfl
theorem d_Ca_init_68 : decode prog_3_method_1_code 68 = .ok (.putfield 42, 3) := dd_at dd_Ca_init 32 rfl
theorem d_Ca_init_71 : decode prog_3_method_1_code 71 = .ok (.aload_n 0, 1) := dd_at dd_Ca_init 33 rfl
theorem d_Ca_init_72 : decode prog_3_method_1_code 72 = .ok (.sipush (240), 3) := dd_at dd_Ca_init 34 rfl
theorem d_Ca_init_75 : decode prog_3_method_1_code 75 = .ok (.newarray .double, 2) := dd_at dd_Ca_init 35 rfl
theorem d_Ca_init_77 : decode prog_3_method_1_code 77 = .ok (.putfield 46, 3) := dd_at dd_Ca_init 36 rfl
theorem d_Ca_init_80 : decode prog_3_method_1_code 80 = .ok (.return_, 1) := dd_at dd_Ca_init 37 rfl
def ld_Mo_init : List (Nat × Instr × Nat) := [(0, .aload_n 0, 1), (1, .invokespecial 1, 3), (4, .aload_n 0, 1), (5, .iconst 0, 1), (6, .putfield 7, 3), (9, .aload_n 0, 1), (10, .iconst 0, 1), (11, .putfield 13, 3), (14, .aload_n 0, 1), (15, .iconst 0, 1), (16, .putfield 16, 3), (19, .aload_n 0, 1), (20, .iconst (-1), 1), (21, .putfield 19, 3), (24, .aload_n 0, 1), (25, .iconst 0, 1), (26, .putfield 22, 3), (29, .aload_n 0, 1), (30, .iconst 0, 1), (31, .putfield 25, 3), (34, .aload_n 0, 1), (35, .iconst 0, 1), (36, .putfield 28, 3), (39, .aload_n 0, 1), (40, .iconst 0, 1), (41, .putfield 31, 3), (44, .aload_n 0, 1), (45, .bipush (60), 2), (47, .newarray .char, 2), (49, .putfield 35, 3), (52, .aload_n 0, 1), (53, .bipush (60), 2), (55, .newarray .char, 2), (57, .putfield 39, 3), (60, .aload_n 0, 1), (61, .bipush (25), 2), (63, .newarray .int, 2), (65, .putfield 42, 3), (68, .aload_n 0, 1), (69, .bipush (25), 2), (71, .newarray .int, 2), (73, .putfield 46, 3), (76, .aload_n 0, 1), (77, .sipush (200), 3), (80, .newarray .int, 2), (82, .putfield 49, 3), (85, .aload_n 0, 1), (86, .bipush (100), 2), (88, .newarray .int, 2), (90, .putfield 52, 3), (93, .aload_n 0, 1), (94, .sipush (4000), 3), (97, .newarray .int, 2), (99, .putfield 55, 3), (102, .aload_n 0, 1), (103, .bipush (64), 2), (105, .newarray .int, 2), (107, .putfield 58, 3), (110, .aload_n 0, 1), (111, .iconst 0, 1), (112, .putfield 61, 3), (115, .aload_n 0, 1), (116, .iconst (-1), 1), (117, .putfield 64, 3), (120, .aload_n 0, 1), (121, .iconst 0, 1), (122, .putfield 67, 3), (125, .aload_n 0, 1), (126, .iconst 0, 1), (127, .putfield 70, 3), (130, .aload_n 0, 1), (131, .iconst 0, 1), (132, .putfield 73, 3), (135, .aload_n 0, 1), (136, .iconst 0, 1), (137, .putfield 76, 3), (140, .aload_n 0, 1), (141, .iconst 0, 1), (142, .putfield 79, 3), (145, .aload_n 0, 1), (146, .iconst 0, 1), (147, .putfield 82, 3), (150, .aload_n 0, 1), (151, .iconst 0, 1), (152, .putfield 85, 3), (155, .aload_n 0, 1), (156, .iconst 0, 1), (157, .putfield 88, 3), (160, .aload_n 0, 1), (161, .iconst 0, 1), (162, .putfield 91, 3), (165, .aload_n 0, 1), (166, .iconst 0, 1), (167, .putfield 94, 3), (170, .aload_n 0, 1), (171, .bipush (40), 2), (173, .newarray .double, 2), (175, .putfield 97, 3), (178, .aload_n 0, 1), (179, .bipush (26), 2), (181, .newarray .double, 2), (183, .putfield 101, 3), (186, .aload_n 0, 1), (187, .sipush (200), 3), (190, .newarray .double, 2), (192, .putfield 104, 3), (195, .aload_n 0, 1), (196, .sipush (144), 3), (199, .newarray .double, 2), (201, .putfield 107, 3), (204, .aload_n 0, 1), (205, .bipush (6), 2), (207, .newarray .double, 2), (209, .putfield 110, 3), (212, .aload_n 0, 1), (213, .bipush (6), 2), (215, .newarray .double, 2), (217, .putfield 113, 3), (220, .aload_n 0, 1), (221, .iconst 4, 1), (222, .newarray .double, 2), (224, .putfield 116, 3), (227, .aload_n 0, 1), (228, .bipush (108), 2), (230, .newarray .double, 2), (232, .putfield 119, 3), (235, .aload_n 0, 1), (236, .bipush (36), 2), (238, .newarray .double, 2), (240, .putfield 122, 3), (243, .aload_n 0, 1), (244, .iconst 3, 1), (245, .newarray .int, 2), (247, .putfield 125, 3), (250, .aload_n 0, 1), (251, .iconst 3, 1), (252, .newarray .int, 2), (254, .putfield 128, 3), (257, .aload_n 0, 1), (258, .iconst 3, 1), (259, .newarray .int, 2), (261, .putfield 131, 3), (264, .aload_n 0, 1), (265, .bipush (8), 2), (267, .newarray .int, 2), (269, .putfield 134, 3), (272, .aload_n 0, 1), (273, .bipush (6), 2), (275, .newarray .int, 2), (277, .putfield 137, 3), (280, .aload_n 0, 1), (281, .bipush (6), 2), (283, .newarray .int, 2), (285, .putfield 140, 3), (288, .aload_n 0, 1), (289, .iconst 4, 1), (290, .newarray .int, 2), (292, .putfield 143, 3), (295, .aload_n 0, 1), (296, .iconst 4, 1), (297, .newarray .int, 2), (299, .putfield 146, 3), (302, .return_, 1)]
theorem dd_Mo_init : (ld_Mo_init).all (dOK prog_14_method_1_code) = true := by decide +kernel
theorem d_Mo_init_0 : decode prog_14_method_1_code 0 = .ok (.aload_n 0, 1) := dd_at dd_Mo_init 0 rfl
theorem d_Mo_init_1 : decode prog_14_method_1_code 1 = .ok (.invokespecial 1, 3) := dd_at dd_Mo_init 1 rfl
theorem d_Mo_init_4 : decode prog_14_method_1_code 4 = .ok (.aload_n 0, 1) := dd_at dd_Mo_init 2 rfl
theorem d_Mo_init_5 : decode prog_14_method_1_code 5 = .ok (.iconst 0, 1) := dd_at dd_Mo_init 3 rfl
theorem d_Mo_init_6 : decode prog_14_method_1_code 6 = .ok (.putfield 7, 3) := dd_at dd_Mo_init 4 rfl
theorem d_Mo_init_9 : decode prog_14_method_1_code 9 = .ok (.aload_n 0, 1) := dd_at dd_Mo_init 5 rfl
theorem d_Mo_init_10 : decode prog_14_method_1_code 10 = .ok (.iconst 0, 1) := dd_at dd_Mo_init 6 rfl
theorem d_Mo_init_11 : decode prog_14_method_1_code 11 = .ok (.putfield 13, 3) := dd_at dd_Mo_init 7 rfl
theorem d_Mo_init_14 : decode prog_14_method_1_code 14 = .ok (.aload_n 0, 1) := dd_at dd_Mo_init 8 rfl
theorem d_Mo_init_15 : decode prog_14_method_1_code 15 = .ok (.iconst 0, 1) := dd_at dd_Mo_init 9 rfl
theorem d_Mo_init_16 : decode prog_14_method_1_code 16 = .ok (.putfield 16, 3) := dd_at dd_Mo_init 10 rfl
theorem d_Mo_init_19 : decode prog_14_method_1_code 19 = .ok (.aload_n 0, 1) := dd_at dd_Mo_init 11 rfl
theorem d_Mo_init_20 : decode prog_14_method_1_code 20 = .ok (.iconst (-1), 1) := dd_at dd_Mo_init 12 rfl
theorem d_Mo_init_21 : decode prog_14_method_1_code 21 = .ok (.putfield 19, 3) := dd_at dd_Mo_init 13 rfl
theorem d_Mo_init_24 : decode prog_14_method_1_code 24 = .ok (.aload_n 0, 1) := dd_at dd_Mo_init 14 rfl
theorem d_Mo_init_25 : decode prog_14_method_1_code 25 = .ok (.iconst 0, 1) := dd_at dd_Mo_init 15 rfl
theorem d_Mo_init_26 : decode prog_14_method_1_code 26 = .ok (.putfield 22, 3) := dd_at dd_Mo_init 16 rfl
theorem d_Mo_init_29 : decode prog_14_method_1_code 29 = .ok (.aload_n 0, 1) := dd_at dd_Mo_init 17 rfl
theorem d_Mo_init_30 : decode prog_14_method_1_code 30 = .ok (.iconst 0, 1) := dd_at dd_Mo_init 18 rfl
theorem d_Mo_init_31 : decode prog_14_method_1_code 31 = .ok (.putfield 25, 3) := dd_at dd_Mo_init 19 rfl
theorem d_Mo_init_34 : decode prog_14_method_1_code 34 = .ok (.aload_n 0, 1) := dd_at dd_Mo_init 20 rfl
theorem d_Mo_init_35 : decode prog_14_method_1_code 35 = .ok (.iconst 0, 1) := dd_at dd_Mo_init 21 rfl
theorem d_Mo_init_36 : decode prog_14_method_1_code 36 = .ok (.putfield 28, 3) := dd_at dd_Mo_init 22 rfl
theorem d_Mo_init_39 : decode prog_14_method_1_code 39 = .ok (.aload_n 0, 1) := dd_at dd_Mo_init 23 rfl
theorem d_Mo_init_40 : decode prog_14_method_1_code 40 = .ok (.iconst 0, 1) := dd_at dd_Mo_init 24 rfl
theorem d_Mo_init_41 : decode prog_14_method_1_code 41 = .ok (.putfield 31, 3) := dd_at dd_Mo_init 25 rfl
theorem d_Mo_init_44 : decode prog_14_method_1_code 44 = .ok (.aload_n 0, 1) := dd_at dd_Mo_init 26 rfl
theorem d_Mo_init_45 : decode prog_14_method_1_code 45 = .ok (.bipush (60), 2) := dd_at dd_Mo_init 27 rfl
theorem d_Mo_init_47 : decode prog_14_method_1_code 47 = .ok (.newarray .char, 2) := dd_at dd_Mo_init 28 rfl
theorem d_Mo_init_49 : decode prog_14_method_1_code 49 = .ok (.putfield 35, 3) := dd_at dd_Mo_init 29 rfl
theorem d_Mo_init_52 : decode prog_14_method_1_code 52 = .ok (.aload_n 0, 1) := dd_at dd_Mo_init 30 rfl
theorem d_Mo_init_53 : decode prog_14_method_1_code 53 = .ok (.bipush (60), 2) := dd_at dd_Mo_init 31 rfl
theorem d_Mo_init_55 : decode prog_14_method_1_code 55 = .ok (.newarray .char, 2) := dd_at dd_Mo_init 32 rfl
theorem d_Mo_init_57 : decode prog_14_method_1_code 57 = .ok (.putfield 39, 3) := dd_at dd_Mo_init 33 rfl
theorem d_Mo_init_60 : decode prog_14_method_1_code 60 = .ok (.aload_n 0, 1) := dd_at dd_Mo_init 34 rfl
theorem d_Mo_init_61 : decode prog_14_method_1_code 61 = .ok (.bipush (25), 2) := dd_at dd_Mo_init 35 rfl
theorem d_Mo_init_63 : decode prog_14_method_1_code 63 = .ok (.newarray .int, 2) := dd_at dd_Mo_init 36 rfl
theorem d_Mo_init_65 : decode prog_14_method_1_code 65 = .ok (.putfield 42, 3) := dd_at dd_Mo_init 37 rfl
theorem d_Mo_init_68 : decode prog_14_method_1_code 68 = .ok (.aload_n 0, 1) := dd_at dd_Mo_init 38 rfl
theorem d_Mo_init_69 : decode prog_14_method_1_code 69 = .ok (.bipush (25), 2) := dd_at dd_Mo_init 39 rfl
theorem d_Mo_init_71 : decode prog_14_method_1_code 71 = .ok (.newarray .int, 2) := dd_at dd_Mo_init 40 rfl
theorem d_Mo_init_73 : decode prog_14_method_1_code 73 = .ok (.putfield 46, 3) := dd_at dd_Mo_init 41 rfl
theorem d_Mo_init_76 : decode prog_14_method_1_code 76 = .ok (.aload_n 0, 1) := dd_at dd_Mo_init 42 rfl
theorem d_Mo_init_77 : decode prog_14_method_1_code 77 = .ok (.sipush (200), 3) := dd_at dd_Mo_init 43 rfl
theorem d_Mo_init_80 : decode prog_14_method_1_code 80 = .ok (.newarray .int, 2) := dd_at dd_Mo_init 44 rfl
theorem d_Mo_init_82 : decode prog_14_method_1_code 82 = .ok (.putfield 49, 3) := dd_at dd_Mo_init 45 rfl
theorem d_Mo_init_85 : decode prog_14_method_1_code 85 = .ok (.aload_n 0, 1) := dd_at dd_Mo_init 46 rfl
theorem d_Mo_init_86 : decode prog_14_method_1_code 86 = .ok (.bipush (100), 2) := dd_at dd_Mo_init 47 rfl
theorem d_Mo_init_88 : decode prog_14_method_1_code 88 = .ok (.newarray .int, 2) := dd_at dd_Mo_init 48 rfl
theorem d_Mo_init_90 : decode prog_14_method_1_code 90 = .ok (.putfield 52, 3) := dd_at dd_Mo_init 49 rfl
theorem d_Mo_init_93 : decode prog_14_method_1_code 93 = .ok (.aload_n 0, 1) := dd_at dd_Mo_init 50 rfl
theorem d_Mo_init_94 : decode prog_14_method_1_code 94 = .ok (.sipush (4000), 3) := dd_at dd_Mo_init 51 rfl
theorem d_Mo_init_97 : decode prog_14_method_1_code 97 = .ok (.newarray .int, 2) := dd_at dd_Mo_init 52 rfl
theorem d_Mo_init_99 : decode prog_14_method_1_code 99 = .ok (.putfield 55, 3) := dd_at dd_Mo_init 53 rfl
theorem d_Mo_init_102 : decode prog_14_method_1_code 102 = .ok (.aload_n 0, 1) := dd_at dd_Mo_init 54 rfl
theorem d_Mo_init_103 : decode prog_14_method_1_code 103 = .ok (.bipush (64), 2) := dd_at dd_Mo_init 55 rfl
theorem d_Mo_init_105 : decode prog_14_method_1_code 105 = .ok (.newarray .int, 2) := dd_at dd_Mo_init 56 rfl
theorem d_Mo_init_107 : decode prog_14_method_1_code 107 = .ok (.putfield 58, 3) := dd_at dd_Mo_init 57 rfl
theorem d_Mo_init_110 : decode prog_14_method_1_code 110 = .ok (.aload_n 0, 1) := dd_at dd_Mo_init 58 rfl
theorem d_Mo_init_111 : decode prog_14_method_1_code 111 = .ok (.iconst 0, 1) := dd_at dd_Mo_init 59 rfl
theorem d_Mo_init_112 : decode prog_14_method_1_code 112 = .ok (.putfield 61, 3) := dd_at dd_Mo_init 60 rfl
theorem d_Mo_init_115 : decode prog_14_method_1_code 115 = .ok (.aload_n 0, 1) := dd_at dd_Mo_init 61 rfl
theorem d_Mo_init_116 : decode prog_14_method_1_code 116 = .ok (.iconst (-1), 1) := dd_at dd_Mo_init 62 rfl
theorem d_Mo_init_117 : decode prog_14_method_1_code 117 = .ok (.putfield 64, 3) := dd_at dd_Mo_init 63 rfl
theorem d_Mo_init_120 : decode prog_14_method_1_code 120 = .ok (.aload_n 0, 1) := dd_at dd_Mo_init 64 rfl
theorem d_Mo_init_121 : decode prog_14_method_1_code 121 = .ok (.iconst 0, 1) := dd_at dd_Mo_init 65 rfl
theorem d_Mo_init_122 : decode prog_14_method_1_code 122 = .ok (.putfield 67, 3) := dd_at dd_Mo_init 66 rfl
theorem d_Mo_init_125 : decode prog_14_method_1_code 125 = .ok (.aload_n 0, 1) := dd_at dd_Mo_init 67 rfl
theorem d_Mo_init_126 : decode prog_14_method_1_code 126 = .ok (.iconst 0, 1) := dd_at dd_Mo_init 68 rfl
theorem d_Mo_init_127 : decode prog_14_method_1_code 127 = .ok (.putfield 70, 3) := dd_at dd_Mo_init 69 rfl
theorem d_Mo_init_130 : decode prog_14_method_1_code 130 = .ok (.aload_n 0, 1) := dd_at dd_Mo_init 70 rfl
theorem d_Mo_init_131 : decode prog_14_method_1_code 131 = .ok (.iconst 0, 1) := dd_at dd_Mo_init 71 rfl
theorem d_Mo_init_132 : decode prog_14_method_1_code 132 = .ok (.putfield 73, 3) := dd_at dd_Mo_init 72 rfl
theorem d_Mo_init_135 : decode prog_14_method_1_code 135 = .ok (.aload_n 0, 1) := dd_at dd_Mo_init 73 rfl
theorem d_Mo_init_136 : decode prog_14_method_1_code 136 = .ok (.iconst 0, 1) := dd_at dd_Mo_init 74 rfl
theorem d_Mo_init_137 : decode prog_14_method_1_code 137 = .ok (.putfield 76, 3) := dd_at dd_Mo_init 75 rfl
theorem d_Mo_init_140 : decode prog_14_method_1_code 140 = .ok (.aload_n 0, 1) := dd_at dd_Mo_init 76 rfl
theorem d_Mo_init_141 : decode prog_14_method_1_code 141 = .ok (.iconst 0, 1) := dd_at dd_Mo_init 77 rfl
theorem d_Mo_init_142 : decode prog_14_method_1_code 142 = .ok (.putfield 79, 3) := dd_at dd_Mo_init 78 rfl
theorem d_Mo_init_145 : decode prog_14_method_1_code 145 = .ok (.aload_n 0, 1) := dd_at dd_Mo_init 79 rfl
theorem d_Mo_init_146 : decode prog_14_method_1_code 146 = .ok (.iconst 0, 1) := dd_at dd_Mo_init 80 rfl
theorem d_Mo_init_147 : decode prog_14_method_1_code 147 = .ok (.putfield 82, 3) := dd_at dd_Mo_init 81 rfl
theorem d_Mo_init_150 : decode prog_14_method_1_code 150 = .ok (.aload_n 0, 1) := dd_at dd_Mo_init 82 rfl
theorem d_Mo_init_151 : decode prog_14_method_1_code 151 = .ok (.iconst 0, 1) := dd_at dd_Mo_init 83 rfl
theorem d_Mo_init_152 : decode prog_14_method_1_code 152 = .ok (.putfield 85, 3) := dd_at dd_Mo_init 84 rfl
theorem d_Mo_init_155 : decode prog_14_method_1_code 155 = .ok (.aload_n 0, 1) := dd_at dd_Mo_init 85 rfl
theorem d_Mo_init_156 : decode prog_14_method_1_code 156 = .ok (.iconst 0, 1) := dd_at dd_Mo_init 86 rfl
theorem d_Mo_init_157 : decode prog_14_method_1_code 157 = .ok (.putfield 88, 3) := dd_at dd_Mo_init 87 rfl
theorem d_Mo_init_160 : decode prog_14_method_1_code 160 = .ok (.aload_n 0, 1) := dd_at dd_Mo_init 88 rfl
theorem d_Mo_init_161 : decode prog_14_method_1_code 161 = .ok (.iconst 0, 1) := dd_at dd_Mo_init 89 rfl
theorem d_Mo_init_162 : decode prog_14_method_1_code 162 = .ok (.putfield 91, 3) := dd_at dd_Mo_init 90 rfl
theorem d_Mo_init_165 : decode prog_14_method_1_code 165 = .ok (.aload_n 0, 1) := dd_at dd_Mo_init 91 rfl
theorem d_Mo_init_166 : decode prog_14_method_1_code 166 = .ok (.iconst 0, 1) := dd_at dd_Mo_init 92 rfl
theorem d_Mo_init_167 : decode prog_14_method_1_code 167 = .ok (.putfield 94, 3) := dd_at dd_Mo_init 93 rfl
theorem d_Mo_init_170 : decode prog_14_method_1_code 170 = .ok (.aload_n 0, 1) := dd_at dd_Mo_init 94 rfl
theorem d_Mo_init_171 : decode prog_14_method_1_code 171 = .ok (.bipush (40), 2) := dd_at dd_Mo_init 95 rfl
theorem d_Mo_init_173 : decode prog_14_method_1_code 173 = .ok (.newarray .double, 2) := dd_at dd_Mo_init 96 rfl
theorem d_Mo_init_175 : decode prog_14_method_1_code 175 = .ok (.putfield 97, 3) := dd_at dd_Mo_init 97 rfl
theorem d_Mo_init_178 : decode prog_14_method_1_code 178 = .ok (.aload_n 0, 1) := dd_at dd_Mo_init 98 rfl
theorem d_Mo_init_179 : decode prog_14_method_1_code 179 = .ok (.bipush (26), 2) := dd_at dd_Mo_init 99 rfl
theorem d_Mo_init_181 : decode prog_14_method_1_code 181 = .ok (.newarray .double, 2) := dd_at dd_Mo_init 100 rfl
theorem d_Mo_init_183 : decode prog_14_method_1_code 183 = .ok (.putfield 101, 3) := dd_at dd_Mo_init 101 rfl
theorem d_Mo_init_186 : decode prog_14_method_1_code 186 = .ok (.aload_n 0, 1) := dd_at dd_Mo_init 102 rfl
theorem d_Mo_init_187 : decode prog_14_method_1_code 187 = .ok (.sipush (200), 3) := dd_at dd_Mo_init 103 rfl
theorem d_Mo_init_190 : decode prog_14_method_1_code 190 = .ok (.newarray .double, 2) := dd_at dd_Mo_init 104 rfl
theorem d_Mo_init_192 : decode prog_14_method_1_code 192 = .ok (.putfield 104, 3) := dd_at dd_Mo_init 105 rfl
theorem d_Mo_init_195 : decode prog_14_method_1_code 195 = .ok (.aload_n 0, 1) := dd_at dd_Mo_init 106 rfl
theorem d_Mo_init_196 : decode prog_14_method_1_code 196 = .ok (.sipush (144), 3) := dd_at dd_Mo_init 107 rfl
theorem d_Mo_init_199 : decode prog_14_method_1_code 199 = .ok (.newarray .double, 2) := dd_at dd_Mo_init 108 rfl
theorem d_Mo_init_201 : decode prog_14_method_1_code 201 = .ok (.putfield 107, 3) := dd_at dd_Mo_init 109 rfl
theorem d_Mo_init_204 : decode prog_14_method_1_code 204 = .ok (.aload_n 0, 1) := dd_at dd_Mo_init 110 rfl
theorem d_Mo_init_205 : decode prog_14_method_1_code 205 = .ok (.bipush (6), 2) := dd_at dd_Mo_init 111 rfl
theorem d_Mo_init_207 : decode prog_14_method_1_code 207 = .ok (.newarray .double, 2) := dd_at dd_Mo_init 112 rfl
theorem d_Mo_init_209 : decode prog_14_method_1_code 209 = .ok (.putfield 110, 3) := dd_at dd_Mo_init 113 rfl
theorem d_Mo_init_212 : decode prog_14_method_1_code 212 = .ok (.aload_n 0, 1) := dd_at dd_Mo_init 114 rfl
theorem d_Mo_init_213 : decode prog_14_method_1_code 213 = .ok (.bipush (6), 2) := dd_at dd_Mo_init 115 rfl
theorem d_Mo_init_215 : decode prog_14_method_1_code 215 = .ok (.newarray .double, 2) := dd_at dd_Mo_init 116 rfl
theorem d_Mo_init_217 : decode prog_14_method_1_code 217 = .ok (.putfield 113, 3) := dd_at dd_Mo_init 117 rfl
theorem d_Mo_init_220 : decode prog_14_method_1_code 220 = .ok (.aload_n 0, 1) := dd_at dd_Mo_init 118 rfl
theorem d_Mo_init_221 : decode prog_14_method_1_code 221 = .ok (.iconst 4, 1) := dd_at dd_Mo_init 119 rfl
theorem d_Mo_init_222 : decode prog_14_method_1_code 222 = .ok (.newarray .double, 2) := dd_at dd_Mo_init 120 rfl
theorem d_Mo_init_224 : decode prog_14_method_1_code 224 = .ok (.putfield 116, 3) := dd_at dd_Mo_init 121 rfl
theorem d_Mo_init_227 : decode prog_14_method_1_code 227 = .ok (.aload_n 0, 1) := dd_at dd_Mo_init 122 rfl
theorem d_Mo_init_228 : decode prog_14_method_1_code 228 = .ok (.bipush (108), 2) := dd_at dd_Mo_init 123 rfl
theorem d_Mo_init_230 : decode prog_14_method_1_code 230 = .ok (.newarray .double, 2) := dd_at dd_Mo_init 124 rfl
theorem d_Mo_init_232 : decode prog_14_method_1_code 232 = .ok (.putfield 119, 3) := dd_at dd_Mo_init 125 rfl
theorem d_Mo_init_235 : decode prog_14_method_1_code 235 = .ok (.aload_n 0, 1) := dd_at dd_Mo_init 126 rfl
theorem d_Mo_init_236 : decode prog_14_method_1_code 236 = .ok (.bipush (36), 2) := dd_at dd_Mo_init 127 rfl
theorem d_Mo_init_238 : decode prog_14_method_1_code 238 = .ok (.newarray .double, 2) := dd_at dd_Mo_init 128 rfl
theorem d_Mo_init_240 : decode prog_14_method_1_code 240 = .ok (.putfield 122, 3) := dd_at dd_Mo_init 129 rfl
theorem d_Mo_init_243 : decode prog_14_method_1_code 243 = .ok (.aload_n 0, 1) := dd_at dd_Mo_init 130 rfl
theorem d_Mo_init_244 : decode prog_14_method_1_code 244 = .ok (.iconst 3, 1) := dd_at dd_Mo_init 131 rfl
theorem d_Mo_init_245 : decode prog_14_method_1_code 245 = .ok (.newarray .int, 2) := dd_at dd_Mo_init 132 rfl
theorem d_Mo_init_247 : decode prog_14_method_1_code 247 = .ok (.putfield 125, 3) := dd_at dd_Mo_init 133 rfl
theorem d_Mo_init_250 : decode prog_14_method_1_code 250 = .ok (.aload_n 0, 1) := dd_at dd_Mo_init 134 rfl
theorem d_Mo_init_251 : decode prog_14_method_1_code 251 = .ok (.iconst 3, 1) := dd_at dd_Mo_init 135 rfl
theorem d_Mo_init_252 : decode prog_14_method_1_code 252 = .ok (.newarray .int, 2) := dd_at dd_Mo_init 136 rfl
theorem d_Mo_init_254 : decode prog_14_method_1_code 254 = .ok (.putfield 128, 3) := dd_at dd_Mo_init 137 rfl
theorem d_Mo_init_257 : decode prog_14_method_1_code 257 = .ok (.aload_n 0, 1) := dd_at dd_Mo_init 138 rfl
theorem d_Mo_init_258 : decode prog_14_method_1_code 258 = .ok (.iconst 3, 1) := dd_at dd_Mo_init 139 rfl
theorem d_Mo_init_259 : decode prog_14_method_1_code 259 = .ok (.newarray .int, 2) := dd_at dd_Mo_init 140 rfl
theorem d_Mo_init_261 : decode prog_14_method_1_code 261 = .ok (.putfield 131, 3) := dd_at dd_Mo_init 141 rfl
theorem d_Mo_init_264 : decode prog_14_method_1_code 264 = .ok (.aload_n 0, 1) := dd_at dd_Mo_init 142 rfl
theorem d_Mo_init_265 : decode prog_14_method_1_code 265 = .ok (.bipush (8), 2) := dd_at dd_Mo_init 143 rfl
theorem d_Mo_init_267 : decode prog_14_method_1_code 267 = .ok (.newarray .int, 2) := dd_at dd_Mo_init 144 rfl
theorem d_Mo_init_269 : decode prog_14_method_1_code 269 = .ok (.putfield 134, 3) := dd_at dd_Mo_init 145 rfl
theorem d_Mo_init_272 : decode prog_14_method_1_code 272 = .ok (.aload_n 0, 1) := dd_at dd_Mo_init 146 rfl
theorem d_Mo_init_273 : decode prog_14_method_1_code 273 = .ok (.bipush (6), 2) := dd_at dd_Mo_init 147 rfl
theorem d_Mo_init_275 : decode prog_14_method_1_code 275 = .ok (.newarray .int, 2) := dd_at dd_Mo_init 148 rfl
theorem d_Mo_init_277 : decode prog_14_method_1_code 277 = .ok (.putfield 137, 3) := dd_at dd_Mo_init 149 rfl
theorem d_Mo_init_280 : decode prog_14_method_1_code 280 = .ok (.aload_n 0, 1) := dd_at dd_Mo_init 150 rfl
theorem d_Mo_init_281 : decode prog_14_method_1_code 281 = .ok (.bipush (6), 2) := dd_at dd_Mo_init 151 rfl
theorem d_Mo_init_283 : decode prog_14_method_1_code 283 = .ok (.newarray .int, 2) := dd_at dd_Mo_init 152 rfl
theorem d_Mo_init_285 : decode prog_14_method_1_code 285 = .ok (.putfield 140, 3) := dd_at dd_Mo_init 153 rfl
theorem d_Mo_init_288 : decode prog_14_method_1_code 288 = .ok (.aload_n 0, 1) := dd_at dd_Mo_init 154 rfl
theorem d_Mo_init_289 : decode prog_14_method_1_code 289 = .ok (.iconst 4, 1) := dd_at dd_Mo_init 155 rfl
theorem d_Mo_init_290 : decode prog_14_method_1_code 290 = .ok (.newarray .int, 2) := dd_at dd_Mo_init 156 rfl
theorem d_Mo_init_292 : decode prog_14_method_1_code 292 = .ok (.putfield 143, 3) := dd_at dd_Mo_init 157 rfl
theorem d_Mo_init_295 : decode prog_14_method_1_code 295 = .ok (.aload_n 0, 1) := dd_at dd_Mo_init 158 rfl
theorem d_Mo_init_296 : decode prog_14_method_1_code 296 = .ok (.iconst 4, 1) := dd_at dd_Mo_init 159 rfl
theorem d_Mo_init_297 : decode prog_14_method_1_code 297 = .ok (.newarray .int, 2) := dd_at dd_Mo_init 160 rfl
theorem d_Mo_init_299 : decode prog_14_method_1_code 299 = .ok (.putfield 146, 3) := dd_at dd_Mo_init 161 rfl
theorem d_Mo_init_302 : decode prog_14_method_1_code 302 = .ok (.return_, 1) := dd_at dd_Mo_init 162 rfl
def ld_Pr_init : List (Nat × Instr × Nat) := [(0, .aload_n 0, 1), (1, .invokespecial 3, 3), (4, .aload_n 0, 1), (5, .bipush (24), 2), (7, .anewarray 9, 3), (10, .putfield 11, 3), (13, .iconst 0, 1), (14, .istore_n 1, 1), (15, .iload_n 1, 1), (16, .aload_n 0, 1), (17, .getfield 11, 3), (20, .arraylength, 1), (21, .if_icmp .ge (22), 3), (24, .aload_n 0, 1), (25, .getfield 11, 3), (28, .iload_n 1, 1), (29, .new 9, 3), (32, .dup, 1), (33, .invokespecial 17, 3), (36, .aastore, 1), (37, .iinc 1 (1), 3), (40, .goto (-25), 3), (43, .return_, 1)]
theorem dd_Pr_init : (ld_Pr_init).all (dOK prog_11_method_1_code) = true := by decide +kernel
theorem d_Pr_init_0 : decode prog_11_method_1_code 0 = .ok (.aload_n 0, 1) := dd_at dd_Pr_init 0 rfl
theorem d_Pr_init_1 : decode prog_11_method_1_code 1 = .ok (.invokespecial 3, 3) := dd_at dd_Pr_init 1 rfl
theorem d_Pr_init_4 : decode prog_11_method_1_code 4 = .ok (.aload_n 0, 1) := dd_at dd_Pr_init 2 rfl
theorem d_Pr_init_5 : decode prog_11_method_1_code 5 = .ok (.bipush (24), 2) := dd_at dd_Pr_init 3 rfl
theorem d_Pr_init_7 : decode prog_11_method_1_code 7 = .ok (.anewarray 9, 3) := dd_at dd_Pr_init 4 rfl
theorem d_Pr_init_10 : decode prog_11_method_1_code 10 = .ok (.putfield 11, 3) := dd_at dd_Pr_init 5 rfl
theorem d_Pr_init_13 : decode prog_11_method_1_code 13 = .ok (.iconst 0, 1) := dd_at dd_Pr_init 6 rfl
theorem d_Pr_init_14 : decode prog_11_method_1_code 14 = .ok (.istore_n 1, 1) := dd_at dd_Pr_init 7 rfl
theorem d_Pr_init_15 : decode prog_11_method_1_code 15 = .ok (.iload_n 1, 1) := dd_at dd_Pr_init 8 rfl
theorem d_Pr_init_16 : decode prog_11_method_1_code 16 = .ok (.aload_n 0, 1) := dd_at dd_Pr_init 9 rfl
theorem d_Pr_init_17 : decode prog_11_method_1_code 17 = .ok (.getfield 11, 3) := dd_at dd_Pr_init 10 rfl
theorem d_Pr_init_20 : decode prog_11_method_1_code 20 = .ok (.arraylength, 1) := dd_at dd_Pr_init 11 rfl
theorem d_Pr_init_21 : decode prog_11_method_1_code 21 = .ok (.if_icmp .ge (22), 3) := dd_at dd_Pr_init 12 rfl
theorem d_Pr_init_24 : decode prog_11_method_1_code 24 = .ok (.aload_n 0, 1) := dd_at dd_Pr_init 13 rfl
theorem d_Pr_init_25 : decode prog_11_method_1_code 25 = .ok (.getfield 11, 3) := dd_at dd_Pr_init 14 rfl
theorem d_Pr_init_28 : decode prog_11_method_1_code 28 = .ok (.iload_n 1, 1) := dd_at dd_Pr_init 15 rfl
theorem d_Pr_init_29 : decode prog_11_method_1_code 29 = .ok (.new 9, 3) := dd_at dd_Pr_init 16 rfl
theorem d_Pr_init_32 : decode prog_11_method_1_code 32 = .ok (.dup, 1) := dd_at dd_Pr_init 17 rfl
theorem d_Pr_init_33 : decode prog_11_method_1_code 33 = .ok (.invokespecial 17, 3) := dd_at dd_Pr_init 18 rfl
theorem d_Pr_init_36 : decode prog_11_method_1_code 36 = .ok (.aastore, 1) := dd_at dd_Pr_init 19 rfl
theorem d_Pr_init_37 : decode prog_11_method_1_code 37 = .ok (.iinc 1 (1), 3) := dd_at dd_Pr_init 20 rfl
theorem d_Pr_init_40 : decode prog_11_method_1_code 40 = .ok (.goto (-25), 3) := dd_at dd_Pr_init 21 rfl
theorem d_Pr_init_43 : decode prog_11_method_1_code 43 = .ok (.return_, 1) := dd_at dd_Pr_init 22 rfl
def ld_Ma_init : List (Nat × Instr × Nat) := [(0, .aload_n 0, 1), (1, .invokespecial 3, 3), (4, .aload_n 0, 1), (5, .new 9, 3), (8, .dup, 1), (9, .invokespecial 11, 3), (12, .putfield 12, 3), (15, .aload_n 0, 1), (16, .new 18, 3), (19, .dup, 1), (20, .invokespecial 20, 3), (23, .putfield 21, 3), (26, .aload_n 0, 1), (27, .new 25, 3), (30, .dup, 1), (31, .invokespecial 27, 3), (34, .putfield 28, 3), (37, .aload_n 0, 1), (38, .bipush (40), 2), (40, .newarray .double, 2), (42, .putfield 32, 3), (45, .aload_n 0, 1), (46, .iconst (-1), 1), (47, .putfield 36, 3), (50, .aload_n 0, 1), (51, .bipush (8), 2), (53, .newarray .int, 2), (55, .putfield 40, 3), (58, .aload_n 0, 1), (59, .sipush (144), 3), (62, .newarray .double, 2), (64, .putfield 44, 3), (67, .return_, 1)]
theorem dd_Ma_init : (ld_Ma_init).all (dOK prog_8_method_1_code) = true := by decide +kernel
theorem d_Ma_init_0 : decode prog_8_method_1_code 0 = .ok (.aload_n 0, 1) := dd_at dd_Ma_init 0 rfl
theorem d_Ma_init_1 : decode prog_8_method_1_code 1 = .ok (.invokespecial 3, 3) := dd_at dd_Ma_init 1 rfl
theorem d_Ma_init_4 : decode prog_8_method_1_code 4 = .ok (.aload_n 0, 1) := dd_at dd_Ma_init 2 rfl
theorem d_Ma_init_5 : decode prog_8_method_1_code 5 = .ok (.new 9, 3) := dd_at dd_Ma_init 3 rfl
theorem d_Ma_init_8 : decode prog_8_method_1_code 8 = .ok (.dup, 1) := dd_at dd_Ma_init 4 rfl
theorem d_Ma_init_9 : decode prog_8_method_1_code 9 = .ok (.invokespecial 11, 3) := dd_at dd_Ma_init 5 rfl
theorem d_Ma_init_12 : decode prog_8_method_1_code 12 = .ok (.putfield 12, 3) := dd_at dd_Ma_init 6 rfl
theorem d_Ma_init_15 : decode prog_8_method_1_code 15 = .ok (.aload_n 0, 1) := dd_at dd_Ma_init 7 rfl
theorem d_Ma_init_16 : decode prog_8_method_1_code 16 = .ok (.new 18, 3) := dd_at dd_Ma_init 8 rfl
theorem d_Ma_init_19 : decode prog_8_method_1_code 19 = .ok (.dup, 1) := dd_at dd_Ma_init 9 rfl
theorem d_Ma_init_20 : decode prog_8_method_1_code 20 = .ok (.invokespecial 20, 3) := dd_at dd_Ma_init 10 rfl
theorem d_Ma_init_23 : decode prog_8_method_1_code 23 = .ok (.putfield 21, 3) := dd_at dd_Ma_init 11 rfl
theorem d_Ma_init_26 : decode prog_8_method_1_code 26 = .ok (.aload_n 0, 1) := dd_at dd_Ma_init 12 rfl
theorem d_Ma_init_27 : decode prog_8_method_1_code 27 = .ok (.new 25, 3) := dd_at dd_Ma_init 13 rfl
theorem d_Ma_init_30 : decode prog_8_method_1_code 30 = .ok (.dup, 1) := dd_at dd_Ma_init 14 rfl
theorem d_Ma_init_31 : decode prog_8_method_1_code 31 = .ok (.invokespecial 27, 3) := dd_at dd_Ma_init 15 rfl
theorem d_Ma_init_34 : decode prog_8_method_1_code 34 = .ok (.putfield 28, 3) := dd_at dd_Ma_init 16 rfl
theorem d_Ma_init_37 : decode prog_8_method_1_code 37 = .ok (.aload_n 0, 1) := dd_at dd_Ma_init 17 rfl
theorem d_Ma_init_38 : decode prog_8_method_1_code 38 = .ok (.bipush (40), 2) := dd_at dd_Ma_init 18 rfl
theorem d_Ma_init_40 : decode prog_8_method_1_code 40 = .ok (.newarray .double, 2) := dd_at dd_Ma_init 19 rfl
theorem d_Ma_init_42 : decode prog_8_method_1_code 42 = .ok (.putfield 32, 3) := dd_at dd_Ma_init 20 rfl
theorem d_Ma_init_45 : decode prog_8_method_1_code 45 = .ok (.aload_n 0, 1) := dd_at dd_Ma_init 21 rfl
theorem d_Ma_init_46 : decode prog_8_method_1_code 46 = .ok (.iconst (-1), 1) := dd_at dd_Ma_init 22 rfl
theorem d_Ma_init_47 : decode prog_8_method_1_code 47 = .ok (.putfield 36, 3) := dd_at dd_Ma_init 23 rfl
theorem d_Ma_init_50 : decode prog_8_method_1_code 50 = .ok (.aload_n 0, 1) := dd_at dd_Ma_init 24 rfl
theorem d_Ma_init_51 : decode prog_8_method_1_code 51 = .ok (.bipush (8), 2) := dd_at dd_Ma_init 25 rfl
theorem d_Ma_init_53 : decode prog_8_method_1_code 53 = .ok (.newarray .int, 2) := dd_at dd_Ma_init 26 rfl
theorem d_Ma_init_55 : decode prog_8_method_1_code 55 = .ok (.putfield 40, 3) := dd_at dd_Ma_init 27 rfl
theorem d_Ma_init_58 : decode prog_8_method_1_code 58 = .ok (.aload_n 0, 1) := dd_at dd_Ma_init 28 rfl
theorem d_Ma_init_59 : decode prog_8_method_1_code 59 = .ok (.sipush (144), 3) := dd_at dd_Ma_init 29 rfl
theorem d_Ma_init_62 : decode prog_8_method_1_code 62 = .ok (.newarray .double, 2) := dd_at dd_Ma_init 30 rfl
theorem d_Ma_init_64 : decode prog_8_method_1_code 64 = .ok (.putfield 44, 3) := dd_at dd_Ma_init 31 rfl
theorem d_Ma_init_67 : decode prog_8_method_1_code 67 = .ok (.return_, 1) := dd_at dd_Ma_init 32 rfl
def ld_BM_init : List (Nat × Instr × Nat) := [(0, .aload_n 0, 1), (1, .invokespecial 1, 3), (4, .aload_n 0, 1), (5, .bipush (60), 2), (7, .newarray .char, 2), (9, .putfield 9, 3), (12, .aload_n 0, 1), (13, .iconst (-1), 1), (14, .putfield 13, 3), (17, .aload_n 0, 1), (18, .new 17, 3), (21, .dup, 1), (22, .invokespecial 19, 3), (25, .putfield 20, 3), (28, .aload_n 0, 1), (29, .new 24, 3), (32, .dup, 1), (33, .invokespecial 26, 3), (36, .putfield 27, 3), (39, .return_, 1)]
theorem dd_BM_init : (ld_BM_init).all (dOK prog_1_method_1_code) = true := by decide +kernel
theorem d_BM_init_0 : decode prog_1_method_1_code 0 = .ok (.aload_n 0, 1) := dd_at dd_BM_init 0 rfl
theorem d_BM_init_1 : decode prog_1_method_1_code 1 = .ok (.invokespecial 1, 3) := dd_at dd_BM_init 1 rfl
theorem d_BM_init_4 : decode prog_1_method_1_code 4 = .ok (.aload_n 0, 1) := dd_at dd_BM_init 2 rfl
theorem d_BM_init_5 : decode prog_1_method_1_code 5 = .ok (.bipush (60), 2) := dd_at dd_BM_init 3 rfl
theorem d_BM_init_7 : decode prog_1_method_1_code 7 = .ok (.newarray .char, 2) := dd_at dd_BM_init 4 rfl
theorem d_BM_init_9 : decode prog_1_method_1_code 9 = .ok (.putfield 9, 3) := dd_at dd_BM_init 5 rfl
theorem d_BM_init_12 : decode prog_1_method_1_code 12 = .ok (.aload_n 0, 1) := dd_at dd_BM_init 6 rfl
theorem d_BM_init_13 : decode prog_1_method_1_code 13 = .ok (.iconst (-1), 1) := dd_at dd_BM_init 7 rfl
theorem d_BM_init_14 : decode prog_1_method_1_code 14 = .ok (.putfield 13, 3) := dd_at dd_BM_init 8 rfl
theorem d_BM_init_17 : decode prog_1_method_1_code 17 = .ok (.aload_n 0, 1) := dd_at dd_BM_init 9 rfl
theorem d_BM_init_18 : decode prog_1_method_1_code 18 = .ok (.new 17, 3) := dd_at dd_BM_init 10 rfl
theorem d_BM_init_21 : decode prog_1_method_1_code 21 = .ok (.dup, 1) := dd_at dd_BM_init 11 rfl
theorem d_BM_init_22 : decode prog_1_method_1_code 22 = .ok (.invokespecial 19, 3) := dd_at dd_BM_init 12 rfl
theorem d_BM_init_25 : decode prog_1_method_1_code 25 = .ok (.putfield 20, 3) := dd_at dd_BM_init 13 rfl
theorem d_BM_init_28 : decode prog_1_method_1_code 28 = .ok (.aload_n 0, 1) := dd_at dd_BM_init 14 rfl
theorem d_BM_init_29 : decode prog_1_method_1_code 29 = .ok (.new 24, 3) := dd_at dd_BM_init 15 rfl
theorem d_BM_init_32 : decode prog_1_method_1_code 32 = .ok (.dup, 1) := dd_at dd_BM_init 16 rfl
theorem d_BM_init_33 : decode prog_1_method_1_code 33 = .ok (.invokespecial 26, 3) := dd_at dd_BM_init 17 rfl
theorem d_BM_init_36 : decode prog_1_method_1_code 36 = .ok (.putfield 27, 3) := dd_at dd_BM_init 18 rfl
theorem d_BM_init_39 : decode prog_1_method_1_code 39 = .ok (.return_, 1) := dd_at dd_BM_init 19 rfl
def y_Li_init : MethodName := ⟨"BasicMachine$Line", "<init>", "()V"⟩
theorem mc_Li : MFc y_Li_init prog_6_method_1_code 1 := ⟨in_tbl 48 (by decide +kernel), in_tbl 47 (by decide +kernel), in_tbl 3 (by decide +kernel), rfl, by decide, by decide, by decide +kernel⟩
theorem ow : Cond.instanceMethod Lib.objectInit ∈ gtb ∧ Cond.code Lib.objectInit ⟨#[0xb1]⟩ 1 none ∈ gtb := ⟨in_tbl 36 (by decide +kernel), in_tbl 37 (by decide +kernel)⟩
theorem lsc_Li_9 : Cond.fieldLink "BasicMachine$Line" 9 "BasicMachine$Statement" (en1000.getD 15 "") "LBasicMachine$Statement;" ∈ gtb := in_tbl 50 (by decide +kernel)
theorem flc_Li_15 : FLk "BasicMachine$Line" 15 3 2 := ⟨cf3, by decide, in_tbl 62 (by decide +kernel)⟩
theorem lsc_Li_20 : Cond.fieldLink "BasicMachine$Line" 20 "BasicMachine$Form" (en1100.getD 0 "") "LBasicMachine$Form;" ∈ gtb := in_tbl 52 (by decide +kernel)
theorem flc_Li_26 : FLk "BasicMachine$Line" 26 3 7 := ⟨cf3, by decide, in_tbl 75 (by decide +kernel)⟩
theorem aw_int : Cond.arrayClass (newarray.typeOf .int) ∈ gtb := in_tbl 121 (by decide +kernel)
theorem flc_Li_29 : FLk "BasicMachine$Line" 29 3 8 := ⟨cf3, by decide, in_tbl 78 (by decide +kernel)⟩
theorem flc_Li_33 : FLk "BasicMachine$Line" 33 3 10 := ⟨cf3, by decide, in_tbl 81 (by decide +kernel)⟩
theorem flc_Li_36 : FLk "BasicMachine$Line" 36 3 11 := ⟨cf3, by decide, in_tbl 83 (by decide +kernel)⟩
theorem flc_Li_39 : FLk "BasicMachine$Line" 39 3 13 := ⟨cf3, by decide, in_tbl 86 (by decide +kernel)⟩
def y_Mx_init : MethodName := ⟨"BasicMachine$Matrix", "<init>", "()V"⟩
theorem mc_Mx : MFc y_Mx_init prog_9_method_1_code 1 := ⟨in_tbl 179 (by decide +kernel), in_tbl 178 (by decide +kernel), in_tbl 11 (by decide +kernel), rfl, by decide, by decide, by decide +kernel⟩
theorem aw_double : Cond.arrayClass (newarray.typeOf .double) ∈ gtb := in_tbl 193 (by decide +kernel)
theorem flc_Mx_9 : FLk "BasicMachine$Matrix" 9 7 2 := ⟨cf7, by decide, in_tbl 185 (by decide +kernel)⟩
def y_Lo_init : MethodName := ⟨"BasicMachine$Loops", "<init>", "()V"⟩
theorem mc_Lo : MFc y_Lo_init prog_7_method_1_code 1 := ⟨in_tbl 228 (by decide +kernel), in_tbl 227 (by decide +kernel), in_tbl 12 (by decide +kernel), rfl, by decide, by decide, by decide +kernel⟩
theorem flc_Lo_9 : FLk "BasicMachine$Loops" 9 8 1 := ⟨cf8, by decide, in_tbl 233 (by decide +kernel)⟩
theorem flc_Lo_15 : FLk "BasicMachine$Loops" 15 8 2 := ⟨cf8, by decide, in_tbl 234 (by decide +kernel)⟩
theorem flc_Lo_18 : FLk "BasicMachine$Loops" 18 8 3 := ⟨cf8, by decide, in_tbl 235 (by decide +kernel)⟩
theorem flc_Lo_22 : FLk "BasicMachine$Loops" 22 8 4 := ⟨cf8, by decide, in_tbl 236 (by decide +kernel)⟩
def y_Pa_init : MethodName := ⟨"BasicMachine$Parser", "<init>", "()V"⟩
theorem mc_Pa : MFc y_Pa_init prog_10_method_1_code 1 := ⟨in_tbl 42 (by decide +kernel), in_tbl 41 (by decide +kernel), in_tbl 2 (by decide +kernel), rfl, by decide, by decide, by decide +kernel⟩
theorem nw_Pa_9 : Cond.classLink "BasicMachine$Parser" 9 (fC 3) ∈ gtb ∧ Cond.instantiable (fC 3) (nf 3) ∈ gtb ∧ Cond.initialized (fC 3) ∈ gtb := ⟨in_tbl 44 (by decide +kernel), in_tbl 45 (by decide +kernel), in_tbl 3 (by decide +kernel)⟩
theorem df_3 : ∀ j, j < nf 3 → defaultValue (fTy 3 j) = dvl (fts 3 j) := by decide +kernel
theorem lkc_Pa_11 : Cond.methodLinkNest "BasicMachine$Parser" 11 y_Li_init "BasicMachine" ∈ nestW := in_nst 46 (by decide +kernel)
theorem flc_Pa_12 : FLk "BasicMachine$Parser" 12 2 0 := ⟨cf2, by decide, in_tbl 122 (by decide +kernel)⟩
theorem aw_char : Cond.arrayClass (newarray.typeOf .char) ∈ gtb := in_tbl 120 (by decide +kernel)
theorem flc_Pa_18 : FLk "BasicMachine$Parser" 18 2 2 := ⟨cf2, by decide, in_tbl 126 (by decide +kernel)⟩
def y_Ca_init : MethodName := ⟨"BasicMachine$Calculator", "<init>", "()V"⟩
theorem mc_Ca : MFc y_Ca_init prog_3_method_1_code 1 := ⟨in_tbl 171 (by decide +kernel), in_tbl 170 (by decide +kernel), in_tbl 9 (by decide +kernel), rfl, by decide, by decide, by decide +kernel⟩
theorem lsc_Ca_9 : Cond.fieldLink "BasicMachine$Calculator" 9 "BasicMachine$Fault" (en1200.getD 0 "") "LBasicMachine$Fault;" ∈ gtb := in_tbl 173 (by decide +kernel)
theorem flc_Ca_15 : FLk "BasicMachine$Calculator" 15 6 0 := ⟨cf6, by decide, in_tbl 195 (by decide +kernel)⟩
theorem flc_Ca_20 : FLk "BasicMachine$Calculator" 20 6 1 := ⟨cf6, by decide, in_tbl 197 (by decide +kernel)⟩
theorem nw_Ca_24 : Cond.classLink "BasicMachine$Calculator" 24 (fC 7) ∈ gtb ∧ Cond.instantiable (fC 7) (nf 7) ∈ gtb ∧ Cond.initialized (fC 7) ∈ gtb := ⟨in_tbl 175 (by decide +kernel), in_tbl 176 (by decide +kernel), in_tbl 11 (by decide +kernel)⟩
theorem df_7 : ∀ j, j < nf 7 → defaultValue (fTy 7 j) = dvl (fts 7 j) := by decide +kernel
theorem lkc_Ca_26 : Cond.methodLinkNest "BasicMachine$Calculator" 26 y_Mx_init "BasicMachine" ∈ nestW := in_nst 177 (by decide +kernel)
theorem flc_Ca_27 : FLk "BasicMachine$Calculator" 27 6 2 := ⟨cf6, by decide, in_tbl 198 (by decide +kernel)⟩
theorem flc_Ca_31 : FLk "BasicMachine$Calculator" 31 6 3 := ⟨cf6, by decide, in_tbl 199 (by decide +kernel)⟩
theorem flc_Ca_34 : FLk "BasicMachine$Calculator" 34 6 4 := ⟨cf6, by decide, in_tbl 200 (by decide +kernel)⟩
theorem flc_Ca_37 : FLk "BasicMachine$Calculator" 37 6 5 := ⟨cf6, by decide, in_tbl 201 (by decide +kernel)⟩
theorem flc_Ca_42 : FLk "BasicMachine$Calculator" 42 6 6 := ⟨cf6, by decide, in_tbl 202 (by decide +kernel)⟩
theorem flc_Ca_46 : FLk "BasicMachine$Calculator" 46 6 7 := ⟨cf6, by decide, in_tbl 203 (by decide +kernel)⟩
def y_Mo_init : MethodName := ⟨"BasicMachineModel", "<init>", "()V"⟩
theorem mc_Mo : MFc y_Mo_init prog_14_method_1_code 1 := ⟨in_tbl 1163 (by decide +kernel), in_tbl 1162 (by decide +kernel), in_tbl 13 (by decide +kernel), rfl, by decide, by decide, by decide +kernel⟩
theorem flc_Mo_7 : FLk "BasicMachineModel" 7 9 0 := ⟨cf9, by decide, in_tbl 1165 (by decide +kernel)⟩
theorem flc_Mo_13 : FLk "BasicMachineModel" 13 9 1 := ⟨cf9, by decide, in_tbl 1166 (by decide +kernel)⟩
theorem flc_Mo_16 : FLk "BasicMachineModel" 16 9 2 := ⟨cf9, by decide, in_tbl 1167 (by decide +kernel)⟩
theorem flc_Mo_19 : FLk "BasicMachineModel" 19 9 3 := ⟨cf9, by decide, in_tbl 1168 (by decide +kernel)⟩
theorem flc_Mo_22 : FLk "BasicMachineModel" 22 9 4 := ⟨cf9, by decide, in_tbl 1169 (by decide +kernel)⟩
theorem flc_Mo_25 : FLk "BasicMachineModel" 25 9 5 := ⟨cf9, by decide, in_tbl 1170 (by decide +kernel)⟩
theorem flc_Mo_28 : FLk "BasicMachineModel" 28 9 6 := ⟨cf9, by decide, in_tbl 1171 (by decide +kernel)⟩
theorem flc_Mo_31 : FLk "BasicMachineModel" 31 9 7 := ⟨cf9, by decide, in_tbl 1172 (by decide +kernel)⟩
theorem flc_Mo_35 : FLk "BasicMachineModel" 35 9 8 := ⟨cf9, by decide, in_tbl 1173 (by decide +kernel)⟩
theorem flc_Mo_39 : FLk "BasicMachineModel" 39 9 9 := ⟨cf9, by decide, in_tbl 1174 (by decide +kernel)⟩
theorem flc_Mo_42 : FLk "BasicMachineModel" 42 9 10 := ⟨cf9, by decide, in_tbl 1175 (by decide +kernel)⟩
theorem flc_Mo_46 : FLk "BasicMachineModel" 46 9 11 := ⟨cf9, by decide, in_tbl 1176 (by decide +kernel)⟩
theorem flc_Mo_49 : FLk "BasicMachineModel" 49 9 12 := ⟨cf9, by decide, in_tbl 1177 (by decide +kernel)⟩
theorem flc_Mo_52 : FLk "BasicMachineModel" 52 9 13 := ⟨cf9, by decide, in_tbl 1178 (by decide +kernel)⟩
theorem flc_Mo_55 : FLk "BasicMachineModel" 55 9 14 := ⟨cf9, by decide, in_tbl 1179 (by decide +kernel)⟩
theorem flc_Mo_58 : FLk "BasicMachineModel" 58 9 15 := ⟨cf9, by decide, in_tbl 1180 (by decide +kernel)⟩
theorem flc_Mo_61 : FLk "BasicMachineModel" 61 9 16 := ⟨cf9, by decide, in_tbl 1181 (by decide +kernel)⟩
theorem flc_Mo_64 : FLk "BasicMachineModel" 64 9 17 := ⟨cf9, by decide, in_tbl 1182 (by decide +kernel)⟩
theorem flc_Mo_67 : FLk "BasicMachineModel" 67 9 18 := ⟨cf9, by decide, in_tbl 1183 (by decide +kernel)⟩
theorem flc_Mo_70 : FLk "BasicMachineModel" 70 9 19 := ⟨cf9, by decide, in_tbl 1184 (by decide +kernel)⟩
theorem flc_Mo_73 : FLk "BasicMachineModel" 73 9 20 := ⟨cf9, by decide, in_tbl 1185 (by decide +kernel)⟩
theorem flc_Mo_76 : FLk "BasicMachineModel" 76 9 21 := ⟨cf9, by decide, in_tbl 1186 (by decide +kernel)⟩
theorem flc_Mo_79 : FLk "BasicMachineModel" 79 9 22 := ⟨cf9, by decide, in_tbl 1187 (by decide +kernel)⟩
theorem flc_Mo_82 : FLk "BasicMachineModel" 82 9 23 := ⟨cf9, by decide, in_tbl 1188 (by decide +kernel)⟩
theorem flc_Mo_85 : FLk "BasicMachineModel" 85 9 24 := ⟨cf9, by decide, in_tbl 1189 (by decide +kernel)⟩
theorem flc_Mo_88 : FLk "BasicMachineModel" 88 9 25 := ⟨cf9, by decide, in_tbl 1190 (by decide +kernel)⟩
theorem flc_Mo_91 : FLk "BasicMachineModel" 91 9 26 := ⟨cf9, by decide, in_tbl 1191 (by decide +kernel)⟩
theorem flc_Mo_94 : FLk "BasicMachineModel" 94 9 27 := ⟨cf9, by decide, in_tbl 1192 (by decide +kernel)⟩
theorem flc_Mo_97 : FLk "BasicMachineModel" 97 9 28 := ⟨cf9, by decide, in_tbl 1193 (by decide +kernel)⟩
theorem flc_Mo_101 : FLk "BasicMachineModel" 101 9 29 := ⟨cf9, by decide, in_tbl 1194 (by decide +kernel)⟩
theorem flc_Mo_104 : FLk "BasicMachineModel" 104 9 30 := ⟨cf9, by decide, in_tbl 1195 (by decide +kernel)⟩
theorem flc_Mo_107 : FLk "BasicMachineModel" 107 9 31 := ⟨cf9, by decide, in_tbl 1196 (by decide +kernel)⟩
theorem flc_Mo_110 : FLk "BasicMachineModel" 110 9 32 := ⟨cf9, by decide, in_tbl 1197 (by decide +kernel)⟩
theorem flc_Mo_113 : FLk "BasicMachineModel" 113 9 33 := ⟨cf9, by decide, in_tbl 1198 (by decide +kernel)⟩
theorem flc_Mo_116 : FLk "BasicMachineModel" 116 9 34 := ⟨cf9, by decide, in_tbl 1199 (by decide +kernel)⟩
theorem flc_Mo_119 : FLk "BasicMachineModel" 119 9 35 := ⟨cf9, by decide, in_tbl 1200 (by decide +kernel)⟩
theorem flc_Mo_122 : FLk "BasicMachineModel" 122 9 36 := ⟨cf9, by decide, in_tbl 1201 (by decide +kernel)⟩
theorem flc_Mo_125 : FLk "BasicMachineModel" 125 9 37 := ⟨cf9, by decide, in_tbl 1202 (by decide +kernel)⟩
theorem flc_Mo_128 : FLk "BasicMachineModel" 128 9 38 := ⟨cf9, by decide, in_tbl 1203 (by decide +kernel)⟩
theorem flc_Mo_131 : FLk "BasicMachineModel" 131 9 39 := ⟨cf9, by decide, in_tbl 1204 (by decide +kernel)⟩
theorem flc_Mo_134 : FLk "BasicMachineModel" 134 9 40 := ⟨cf9, by decide, in_tbl 1205 (by decide +kernel)⟩
theorem flc_Mo_137 : FLk "BasicMachineModel" 137 9 41 := ⟨cf9, by decide, in_tbl 1206 (by decide +kernel)⟩
theorem flc_Mo_140 : FLk "BasicMachineModel" 140 9 42 := ⟨cf9, by decide, in_tbl 1207 (by decide +kernel)⟩
theorem flc_Mo_143 : FLk "BasicMachineModel" 143 9 43 := ⟨cf9, by decide, in_tbl 1208 (by decide +kernel)⟩
theorem flc_Mo_146 : FLk "BasicMachineModel" 146 9 44 := ⟨cf9, by decide, in_tbl 1209 (by decide +kernel)⟩
def y_Pr_init : MethodName := ⟨"BasicMachine$Program", "<init>", "()V"⟩
theorem mc_Pr : MFc y_Pr_init prog_11_method_1_code 2 := ⟨in_tbl 153 (by decide +kernel), in_tbl 152 (by decide +kernel), in_tbl 8 (by decide +kernel), rfl, by decide, by decide, by decide +kernel⟩
theorem flc_Pr_11 : FLk "BasicMachine$Program" 11 5 1 := ⟨cf5, by decide, in_tbl 161 (by decide +kernel)⟩
theorem nw_Pr_9 : Cond.classLink "BasicMachine$Program" 9 (fC 3) ∈ gtb ∧ Cond.instantiable (fC 3) (nf 3) ∈ gtb ∧ Cond.initialized (fC 3) ∈ gtb := ⟨in_tbl 155 (by decide +kernel), in_tbl 45 (by decide +kernel), in_tbl 3 (by decide +kernel)⟩
theorem lkc_Pr_17 : Cond.methodLinkNest "BasicMachine$Program" 17 y_Li_init "BasicMachine" ∈ nestW := in_nst 157 (by decide +kernel)
def y_Ma_init : MethodName := ⟨"BasicMachine$Machine", "<init>", "()V"⟩
theorem mc_Ma : MFc y_Ma_init prog_8_method_1_code 1 := ⟨in_tbl 147 (by decide +kernel), in_tbl 146 (by decide +kernel), in_tbl 7 (by decide +kernel), rfl, by decide, by decide, by decide +kernel⟩
theorem nw_Ma_9 : Cond.classLink "BasicMachine$Machine" 9 (fC 5) ∈ gtb ∧ Cond.instantiable (fC 5) (nf 5) ∈ gtb ∧ Cond.initialized (fC 5) ∈ gtb := ⟨in_tbl 149 (by decide +kernel), in_tbl 150 (by decide +kernel), in_tbl 8 (by decide +kernel)⟩
theorem df_5 : ∀ j, j < nf 5 → defaultValue (fTy 5 j) = dvl (fts 5 j) := by decide +kernel
theorem lkc_Ma_11 : Cond.methodLink "BasicMachine$Machine" 11 y_Pr_init ∈ gtb := in_tbl 151 (by decide +kernel)
theorem flc_Ma_12 : FLk "BasicMachine$Machine" 12 4 0 := ⟨cf4, by decide, in_tbl 248 (by decide +kernel)⟩
theorem nw_Ma_18 : Cond.classLink "BasicMachine$Machine" 18 (fC 6) ∈ gtb ∧ Cond.instantiable (fC 6) (nf 6) ∈ gtb ∧ Cond.initialized (fC 6) ∈ gtb := ⟨in_tbl 167 (by decide +kernel), in_tbl 168 (by decide +kernel), in_tbl 9 (by decide +kernel)⟩
theorem df_6 : ∀ j, j < nf 6 → defaultValue (fTy 6 j) = dvl (fts 6 j) := by decide +kernel
theorem lkc_Ma_20 : Cond.methodLinkNest "BasicMachine$Machine" 20 y_Ca_init "BasicMachine" ∈ nestW := in_nst 169 (by decide +kernel)
theorem flc_Ma_21 : FLk "BasicMachine$Machine" 21 4 1 := ⟨cf4, by decide, in_tbl 250 (by decide +kernel)⟩
theorem nw_Ma_25 : Cond.classLink "BasicMachine$Machine" 25 (fC 8) ∈ gtb ∧ Cond.instantiable (fC 8) (nf 8) ∈ gtb ∧ Cond.initialized (fC 8) ∈ gtb := ⟨in_tbl 224 (by decide +kernel), in_tbl 225 (by decide +kernel), in_tbl 12 (by decide +kernel)⟩
theorem df_8 : ∀ j, j < nf 8 → defaultValue (fTy 8 j) = dvl (fts 8 j) := by decide +kernel
theorem lkc_Ma_27 : Cond.methodLinkNest "BasicMachine$Machine" 27 y_Lo_init "BasicMachine" ∈ nestW := in_nst 226 (by decide +kernel)
theorem flc_Ma_28 : FLk "BasicMachine$Machine" 28 4 2 := ⟨cf4, by decide, in_tbl 252 (by decide +kernel)⟩
theorem flc_Ma_32 : FLk "BasicMachine$Machine" 32 4 3 := ⟨cf4, by decide, in_tbl 254 (by decide +kernel)⟩
theorem flc_Ma_36 : FLk "BasicMachine$Machine" 36 4 9 := ⟨cf4, by decide, in_tbl 266 (by decide +kernel)⟩
theorem flc_Ma_40 : FLk "BasicMachine$Machine" 40 4 11 := ⟨cf4, by decide, in_tbl 270 (by decide +kernel)⟩
theorem flc_Ma_44 : FLk "BasicMachine$Machine" 44 4 12 := ⟨cf4, by decide, in_tbl 271 (by decide +kernel)⟩
def y_BM_init : MethodName := ⟨"BasicMachine", "<init>", "()V"⟩
theorem mc_BM : MFc y_BM_init prog_1_method_1_code 1 := ⟨in_tbl 34 (by decide +kernel), in_tbl 33 (by decide +kernel), in_tbl 1 (by decide +kernel), rfl, by decide, by decide, by decide +kernel⟩
theorem flc_BM_9 : FLk "BasicMachine" 9 1 0 := ⟨cf1, by decide, in_tbl 305 (by decide +kernel)⟩
theorem flc_BM_13 : FLk "BasicMachine" 13 1 2 := ⟨cf1, by decide, in_tbl 307 (by decide +kernel)⟩
theorem nw_BM_17 : Cond.classLink "BasicMachine" 17 (fC 2) ∈ gtb ∧ Cond.instantiable (fC 2) (nf 2) ∈ gtb ∧ Cond.initialized (fC 2) ∈ gtb := ⟨in_tbl 38 (by decide +kernel), in_tbl 39 (by decide +kernel), in_tbl 2 (by decide +kernel)⟩
theorem df_2 : ∀ j, j < nf 2 → defaultValue (fTy 2 j) = dvl (fts 2 j) := by decide +kernel
theorem lkc_BM_19 : Cond.methodLinkNest "BasicMachine" 19 y_Pa_init "BasicMachine" ∈ nestW := in_nst 40 (by decide +kernel)
theorem flc_BM_20 : FLk "BasicMachine" 20 1 3 := ⟨cf1, by decide, in_tbl 308 (by decide +kernel)⟩
theorem nw_BM_24 : Cond.classLink "BasicMachine" 24 (fC 4) ∈ gtb ∧ Cond.instantiable (fC 4) (nf 4) ∈ gtb ∧ Cond.initialized (fC 4) ∈ gtb := ⟨in_tbl 143 (by decide +kernel), in_tbl 144 (by decide +kernel), in_tbl 7 (by decide +kernel)⟩
theorem df_4 : ∀ j, j < nf 4 → defaultValue (fTy 4 j) = dvl (fts 4 j) := by decide +kernel
theorem lkc_BM_26 : Cond.methodLinkNest "BasicMachine" 26 y_Ma_init "BasicMachine" ∈ nestW := in_nst 145 (by decide +kernel)
theorem flc_BM_27 : FLk "BasicMachine" 27 1 4 := ⟨cf1, by decide, in_tbl 309 (by decide +kernel)⟩
def m_Li (o a1 a2 a3 a4 : Nat) (A : Mem) : Mem := (sR (sR (sR (sR (sR (sR A o 2 1015) o 7 1100) o 8 a1) o 10 a2) o 11 a3) o 13 a4)
set_option maxHeartbeats 1000000 in
theorem ci_Li (n o i : Nat) (a1 : Nat) (a2 : Nat) (a3 : Nat) (a4 : Nat) (A : Mem) (h0 : o ≠ 0) (hi : i < n) (ho : alo[i]? = some o) (hk : kd o = 3) (ha1 : alo[n + 0]? = some a1) (ka1 : kd a1 = 51 ∧ al a1 = 6) (ha2 : alo[n + 1]? = some a2) (ka2 : kd a2 = 51 ∧ al a2 = 60) (ha3 : alo[n + 2]? = some a3) (ka3 : kd a3 = 51 ∧ al a3 = 60) (ha4 : alo[n + 3]? = some a4) (ka4 : kd a4 = 51 ∧ al a4 = 3) : CtC y_Li_init prog_6_method_1_code 1 1 20 4 129 n o A (m_Li o a1 a2 a3 a4 A) := by
  refine ctC_of (own := "BasicMachine$Line") (by decide) rfl rfl (by decide) (fun X E hX hini hR hN hQ => ?_)
  refine n_aload_n (pc := 0) hX d_Li_init_0 rfl 0 rfl ?_
  refine n_objinit (pc := 1) hX hR h0 (in_tbl 49 (by decide +kernel)) ow (by decide) (cat_sum _ (Nat.le_of_ble_eq_true rfl)) d_Li_init_1 ?_
  refine n_aload_n (pc := 4) hX d_Li_init_4 rfl 0 rfl ?_
  refine n_getsE (pc := 5) (i := 15) hX (gSF hX.1).1 (by decide) rfl (by decide) lsc_Li_9 d_Li_init_5 ?_
  refine n_putR (pc := 8) (v := 1015) (ix := i) hX hini flc_Li_15 rfl rfl (Or.inl ⟨_, rfl⟩) hk (Nat.lt_of_lt_of_le hi (Nat.le_add_right _ _)) ho d_Li_init_8 ?_
  refine n_aload_n (pc := 11) hX d_Li_init_11 rfl 0 rfl ?_
  refine n_getsE (pc := 12) (i := 0) hX (gSF hX.1).2.1 (by decide) rfl (by decide) lsc_Li_20 d_Li_init_12 ?_
  refine n_putR (pc := 15) (v := 1100) (ix := i) hX hini flc_Li_26 rfl rfl (Or.inl ⟨_, rfl⟩) hk (Nat.lt_of_lt_of_le hi (Nat.le_add_right _ _)) ho d_Li_init_15 ?_
  refine n_aload_n (pc := 18) hX d_Li_init_18 rfl 0 rfl ?_
  refine n_bipush (pc := 19) (v := 6) hX d_Li_init_19 (by decide) ?_
  refine n_newarr (pc := 21) (kk0 := 51) (k := a1) (N := 6) hX (by decide) rfl aw_int ha1 ka1.1 ka1.2 (by decide) (by decide) (by decide) ⟨Nat.le_trans (by decide) hQ.2.2.1, Nat.le_trans (by decide) hQ.2.2.2⟩ d_Li_init_21 ?_
  refine n_putR (pc := 23) (v := a1) (ix := i) hX hini flc_Li_29 rfl rfl (Or.inr ⟨_, rfl⟩) hk (Nat.lt_of_lt_of_le hi (Nat.le_add_right _ _)) ho d_Li_init_23 ?_
  refine n_aload_n (pc := 26) hX d_Li_init_26 rfl 0 rfl ?_
  refine n_bipush (pc := 27) (v := 60) hX d_Li_init_27 (by decide) ?_
  refine n_newarr (pc := 29) (kk0 := 51) (k := a2) (N := 60) hX (by decide) rfl aw_int ha2 ka2.1 ka2.2 (by decide) (by decide) (by decide) ⟨Nat.le_trans (by decide) hQ.2.2.1, Nat.le_trans (by decide) hQ.2.2.2⟩ d_Li_init_29 ?_
  refine n_putR (pc := 31) (v := a2) (ix := i) hX hini flc_Li_33 rfl rfl (Or.inr ⟨_, rfl⟩) hk (Nat.lt_of_lt_of_le hi (Nat.le_add_right _ _)) ho d_Li_init_31 ?_
  refine n_aload_n (pc := 34) hX d_Li_init_34 rfl 0 rfl ?_
  refine n_bipush (pc := 35) (v := 60) hX d_Li_init_35 (by decide) ?_
  refine n_newarr (pc := 37) (kk0 := 51) (k := a3) (N := 60) hX (by decide) rfl aw_int ha3 ka3.1 ka3.2 (by decide) (by decide) (by decide) ⟨Nat.le_trans (by decide) hQ.2.2.1, Nat.le_trans (by decide) hQ.2.2.2⟩ d_Li_init_37 ?_
  refine n_putR (pc := 39) (v := a3) (ix := i) hX hini flc_Li_36 rfl rfl (Or.inr ⟨_, rfl⟩) hk (Nat.lt_of_lt_of_le hi (Nat.le_add_right _ _)) ho d_Li_init_39 ?_
  refine n_aload_n (pc := 42) hX d_Li_init_42 rfl 0 rfl ?_
  refine n_iconst (pc := 43) (v := 3) hX d_Li_init_43 (by decide) ?_
  refine n_newarr (pc := 44) (kk0 := 51) (k := a4) (N := 3) hX (by decide) rfl aw_int ha4 ka4.1 ka4.2 (by decide) (by decide) (by decide) ⟨Nat.le_trans (by decide) hQ.2.2.1, Nat.le_trans (by decide) hQ.2.2.2⟩ d_Li_init_44 ?_
  refine n_putR (pc := 46) (v := a4) (ix := i) hX hini flc_Li_39 rfl rfl (Or.inr ⟨_, rfl⟩) hk (Nat.lt_of_lt_of_le hi (Nat.le_add_right _ _)) ho d_Li_init_46 ?_
  exact n_vret (pc := 49) hX hQ rfl rfl rfl rfl d_Li_init_49
def m_Mx (o a1 : Nat) (A : Mem) : Mem := (sR A o 2 a1)
set_option maxHeartbeats 1000000 in
theorem ci_Mx (n o i : Nat) (a1 : Nat) (A : Mem) (h0 : o ≠ 0) (hi : i < n) (ho : alo[i]? = some o) (hk : kd o = 7) (ha1 : alo[n + 0]? = some a1) (ka1 : kd a1 = 53 ∧ al a1 = 36) : CtC y_Mx_init prog_9_method_1_code 1 1 20 1 36 n o A (m_Mx o a1 A) := by
  refine ctC_of (own := "BasicMachine$Matrix") (by decide) rfl rfl (by decide) (fun X E hX hini hR hN hQ => ?_)
  refine n_aload_n (pc := 0) hX d_Mx_init_0 rfl 0 rfl ?_
  refine n_objinit (pc := 1) hX hR h0 (in_tbl 180 (by decide +kernel)) ow (by decide) (cat_sum _ (Nat.le_of_ble_eq_true rfl)) d_Mx_init_1 ?_
  refine n_aload_n (pc := 4) hX d_Mx_init_4 rfl 0 rfl ?_
  refine n_bipush (pc := 5) (v := 36) hX d_Mx_init_5 (by decide) ?_
  refine n_newarr (pc := 7) (kk0 := 53) (k := a1) (N := 36) hX (by decide) rfl aw_double ha1 ka1.1 ka1.2 (by decide) (by decide) (by decide) ⟨Nat.le_trans (by decide) hQ.2.2.1, Nat.le_trans (by decide) hQ.2.2.2⟩ d_Mx_init_7 ?_
  refine n_putR (pc := 9) (v := a1) (ix := i) hX hini flc_Mx_9 rfl rfl (Or.inr ⟨_, rfl⟩) hk (Nat.lt_of_lt_of_le hi (Nat.le_add_right _ _)) ho d_Mx_init_9 ?_
  exact n_vret (pc := 12) hX hQ rfl rfl rfl rfl d_Mx_init_12
def m_Lo (A : Mem) : Mem := (sR (sR (sR (sR A 20 1 21) 20 2 22) 20 3 23) 20 4 24)
set_option maxHeartbeats 1000000 in
theorem ci_Lo (A : Mem) : CtC y_Lo_init prog_7_method_1_code 1 1 20 4 24 145 20 A (m_Lo A) := by
  refine ctC_of (own := "BasicMachine$Loops") (by decide) rfl rfl (by decide) (fun X E hX hini hR hN hQ => ?_)
  refine n_aload_n (pc := 0) hX d_Lo_init_0 rfl 0 rfl ?_
  refine n_objinit (pc := 1) hX hR (by decide) (in_tbl 229 (by decide +kernel)) ow (by decide) (cat_sum _ (Nat.le_of_ble_eq_true rfl)) d_Lo_init_1 ?_
  refine n_aload_n (pc := 4) hX d_Lo_init_4 rfl 0 rfl ?_
  refine n_bipush (pc := 5) (v := 6) hX d_Lo_init_5 (by decide) ?_
  refine n_newarr (pc := 7) (kk0 := 51) (k := 21) (N := 6) hX (by decide) rfl aw_int (by decide) (by decide) (by decide) (by decide) (by decide) (by decide) ⟨Nat.le_trans (by decide) hQ.2.2.1, Nat.le_trans (by decide) hQ.2.2.2⟩ d_Lo_init_7 ?_
  refine n_putR (pc := 9) (v := 21) (ix := 144) hX hini flc_Lo_9 rfl rfl (Or.inr ⟨_, rfl⟩) rfl (by decide) (by decide) d_Lo_init_9 ?_
  refine n_aload_n (pc := 12) hX d_Lo_init_12 rfl 0 rfl ?_
  refine n_bipush (pc := 13) (v := 6) hX d_Lo_init_13 (by decide) ?_
  refine n_newarr (pc := 15) (kk0 := 51) (k := 22) (N := 6) hX (by decide) rfl aw_int (by decide) (by decide) (by decide) (by decide) (by decide) (by decide) ⟨Nat.le_trans (by decide) hQ.2.2.1, Nat.le_trans (by decide) hQ.2.2.2⟩ d_Lo_init_15 ?_
  refine n_putR (pc := 17) (v := 22) (ix := 144) hX hini flc_Lo_15 rfl rfl (Or.inr ⟨_, rfl⟩) rfl (by decide) (by decide) d_Lo_init_17 ?_
  refine n_aload_n (pc := 20) hX d_Lo_init_20 rfl 0 rfl ?_
  refine n_bipush (pc := 21) (v := 6) hX d_Lo_init_21 (by decide) ?_
  refine n_newarr (pc := 23) (kk0 := 53) (k := 23) (N := 6) hX (by decide) rfl aw_double (by decide) (by decide) (by decide) (by decide) (by decide) (by decide) ⟨Nat.le_trans (by decide) hQ.2.2.1, Nat.le_trans (by decide) hQ.2.2.2⟩ d_Lo_init_23 ?_
  refine n_putR (pc := 25) (v := 23) (ix := 144) hX hini flc_Lo_18 rfl rfl (Or.inr ⟨_, rfl⟩) rfl (by decide) (by decide) d_Lo_init_25 ?_
  refine n_aload_n (pc := 28) hX d_Lo_init_28 rfl 0 rfl ?_
  refine n_bipush (pc := 29) (v := 6) hX d_Lo_init_29 (by decide) ?_
  refine n_newarr (pc := 31) (kk0 := 53) (k := 24) (N := 6) hX (by decide) rfl aw_double (by decide) (by decide) (by decide) (by decide) (by decide) (by decide) ⟨Nat.le_trans (by decide) hQ.2.2.1, Nat.le_trans (by decide) hQ.2.2.2⟩ d_Lo_init_31 ?_
  refine n_putR (pc := 33) (v := 24) (ix := 144) hX hini flc_Lo_22 rfl rfl (Or.inr ⟨_, rfl⟩) rfl (by decide) (by decide) d_Lo_init_33 ?_
  exact n_vret (pc := 36) hX hQ rfl rfl rfl rfl d_Lo_init_36
def m_Pa (A : Mem) : Mem := (sR (sR (m_Li 100 130 160 190 220 A) 3 0 100) 3 2 4)
set_option maxHeartbeats 1000000 in
theorem ci_Pa (A : Mem) : CtC y_Pa_init prog_10_method_1_code 1 2 40 6 204 3 3 A (m_Pa A) := by
  refine ctC_of (own := "BasicMachine$Parser") (by decide) rfl rfl (by decide) (fun X E hX hini hR hN hQ => ?_)
  refine n_aload_n (pc := 0) hX d_Pa_init_0 rfl 0 rfl ?_
  refine n_objinit (pc := 1) hX hR (by decide) (in_tbl 43 (by decide +kernel)) ow (by decide) (cat_sum _ (Nat.le_of_ble_eq_true rfl)) d_Pa_init_1 ?_
  refine n_aload_n (pc := 4) hX d_Pa_init_4 rfl 0 rfl ?_
  refine n_new (pc := 5) (k := 100) hX cf3 nw_Pa_9 (by decide) (by decide) df_3 ⟨Nat.le_trans (by decide) hQ.2.2.1, Nat.le_trans (by decide) hQ.2.2.2⟩ d_Pa_init_5 ?_
  refine n_dup (pc := 8) hX d_Pa_init_8 (cr_cat _ _) ?_
  refine n_initN (pc := 9) hX hR lkc_Pa_11 mc_Li (ci_Li 4 100 3 130 160 190 220 _ (by decide) (by decide) (by decide) (by decide) (by decide) ⟨by decide, by decide⟩ (by decide) ⟨by decide, by decide⟩ (by decide) ⟨by decide, by decide⟩ (by decide) ⟨by decide, by decide⟩) rfl (by decide) rfl rfl (by decide) ⟨Nat.le_trans (by decide) hQ.2.2.1, Nat.le_trans (by decide) hQ.2.2.2⟩ (alo_le (by decide)) (cat_sum _ (Nat.le_of_ble_eq_true rfl)) d_Pa_init_9 ?_
  refine n_putR (pc := 12) (v := 100) (ix := 2) hX hini flc_Pa_12 rfl rfl (Or.inl ⟨_, rfl⟩) rfl (by decide) (by decide) d_Pa_init_12 ?_
  refine n_aload_n (pc := 15) hX d_Pa_init_15 rfl 0 rfl ?_
  refine n_bipush (pc := 16) (v := 60) hX d_Pa_init_16 (by decide) ?_
  refine n_newarr (pc := 18) (kk0 := 52) (k := 4) (N := 60) hX (by decide) rfl aw_char (by decide) (by decide) (by decide) (by decide) (by decide) (by decide) ⟨Nat.le_trans (by decide) hQ.2.2.1, Nat.le_trans (by decide) hQ.2.2.2⟩ d_Pa_init_18 ?_
  refine n_putR (pc := 20) (v := 4) (ix := 2) hX hini flc_Pa_18 rfl rfl (Or.inr ⟨_, rfl⟩) rfl (by decide) (by decide) d_Pa_init_20 ?_
  exact n_vret (pc := 23) hX hQ rfl rfl rfl rfl d_Pa_init_23
def m_Ca (A : Mem) : Mem := (sR (sR (sR (m_Mx 15 19 (sR (m_Mx 14 18 (sR (m_Mx 13 17 (sR (m_Mx 12 16 (sR (sR A 8 0 1200) 8 1 9)) 8 2 12)) 8 3 13)) 8 4 14)) 8 5 15) 8 6 10) 8 7 11)
set_option maxHeartbeats 1000000 in
theorem ci_Ca (A : Mem) : CtC y_Ca_init prog_3_method_1_code 1 2 40 11 425 133 8 A (m_Ca A) := by
  refine ctC_of (own := "BasicMachine$Calculator") (by decide) rfl rfl (by decide) (fun X E hX hini hR hN hQ => ?_)
  refine n_aload_n (pc := 0) hX d_Ca_init_0 rfl 0 rfl ?_
  refine n_objinit (pc := 1) hX hR (by decide) (in_tbl 172 (by decide +kernel)) ow (by decide) (cat_sum _ (Nat.le_of_ble_eq_true rfl)) d_Ca_init_1 ?_
  refine n_aload_n (pc := 4) hX d_Ca_init_4 rfl 0 rfl ?_
  refine n_getsE (pc := 5) (i := 0) hX (gSF hX.1).2.2.1 (by decide) rfl (by decide) lsc_Ca_9 d_Ca_init_5 ?_
  refine n_putR (pc := 8) (v := 1200) (ix := 132) hX hini flc_Ca_15 rfl rfl (Or.inl ⟨_, rfl⟩) rfl (by decide) (by decide) d_Ca_init_8 ?_
  refine n_aload_n (pc := 11) hX d_Ca_init_11 rfl 0 rfl ?_
  refine n_bipush (pc := 12) (v := 26) hX d_Ca_init_12 (by decide) ?_
  refine n_newarr (pc := 14) (kk0 := 53) (k := 9) (N := 26) hX (by decide) rfl aw_double (by decide) (by decide) (by decide) (by decide) (by decide) (by decide) ⟨Nat.le_trans (by decide) hQ.2.2.1, Nat.le_trans (by decide) hQ.2.2.2⟩ d_Ca_init_14 ?_
  refine n_putR (pc := 16) (v := 9) (ix := 132) hX hini flc_Ca_20 rfl rfl (Or.inr ⟨_, rfl⟩) rfl (by decide) (by decide) d_Ca_init_16 ?_
  refine n_aload_n (pc := 19) hX d_Ca_init_19 rfl 0 rfl ?_
  refine n_new (pc := 20) (k := 12) hX cf7 nw_Ca_24 (by decide) (by decide) df_7 ⟨Nat.le_trans (by decide) hQ.2.2.1, Nat.le_trans (by decide) hQ.2.2.2⟩ d_Ca_init_20 ?_
  refine n_dup (pc := 23) hX d_Ca_init_23 (cr_cat _ _) ?_
  refine n_initN (pc := 24) hX hR lkc_Ca_26 mc_Mx (ci_Mx 135 12 134 16 _ (by decide) (by decide) (by decide) (by decide) (by decide) ⟨by decide, by decide⟩) rfl (by decide) rfl rfl (by decide) ⟨Nat.le_trans (by decide) hQ.2.2.1, Nat.le_trans (by decide) hQ.2.2.2⟩ (alo_le (by decide)) (cat_sum _ (Nat.le_of_ble_eq_true rfl)) d_Ca_init_24 ?_
  refine n_putR (pc := 27) (v := 12) (ix := 132) hX hini flc_Ca_27 rfl rfl (Or.inl ⟨_, rfl⟩) rfl (by decide) (by decide) d_Ca_init_27 ?_
  refine n_aload_n (pc := 30) hX d_Ca_init_30 rfl 0 rfl ?_
  refine n_new (pc := 31) (k := 13) hX cf7 nw_Ca_24 (by decide) (by decide) df_7 ⟨Nat.le_trans (by decide) hQ.2.2.1, Nat.le_trans (by decide) hQ.2.2.2⟩ d_Ca_init_31 ?_
  refine n_dup (pc := 34) hX d_Ca_init_34 (cr_cat _ _) ?_
  refine n_initN (pc := 35) hX hR lkc_Ca_26 mc_Mx (ci_Mx 137 13 136 17 _ (by decide) (by decide) (by decide) (by decide) (by decide) ⟨by decide, by decide⟩) rfl (by decide) rfl rfl (by decide) ⟨Nat.le_trans (by decide) hQ.2.2.1, Nat.le_trans (by decide) hQ.2.2.2⟩ (alo_le (by decide)) (cat_sum _ (Nat.le_of_ble_eq_true rfl)) d_Ca_init_35 ?_
  refine n_putR (pc := 38) (v := 13) (ix := 132) hX hini flc_Ca_31 rfl rfl (Or.inl ⟨_, rfl⟩) rfl (by decide) (by decide) d_Ca_init_38 ?_
  refine n_aload_n (pc := 41) hX d_Ca_init_41 rfl 0 rfl ?_
  refine n_new (pc := 42) (k := 14) hX cf7 nw_Ca_24 (by decide) (by decide) df_7 ⟨Nat.le_trans (by decide) hQ.2.2.1, Nat.le_trans (by decide) hQ.2.2.2⟩ d_Ca_init_42 ?_
  refine n_dup (pc := 45) hX d_Ca_init_45 (cr_cat _ _) ?_
  refine n_initN (pc := 46) hX hR lkc_Ca_26 mc_Mx (ci_Mx 139 14 138 18 _ (by decide) (by decide) (by decide) (by decide) (by decide) ⟨by decide, by decide⟩) rfl (by decide) rfl rfl (by decide) ⟨Nat.le_trans (by decide) hQ.2.2.1, Nat.le_trans (by decide) hQ.2.2.2⟩ (alo_le (by decide)) (cat_sum _ (Nat.le_of_ble_eq_true rfl)) d_Ca_init_46 ?_
  refine n_putR (pc := 49) (v := 14) (ix := 132) hX hini flc_Ca_34 rfl rfl (Or.inl ⟨_, rfl⟩) rfl (by decide) (by decide) d_Ca_init_49 ?_
  refine n_aload_n (pc := 52) hX d_Ca_init_52 rfl 0 rfl ?_
  refine n_new (pc := 53) (k := 15) hX cf7 nw_Ca_24 (by decide) (by decide) df_7 ⟨Nat.le_trans (by decide) hQ.2.2.1, Nat.le_trans (by decide) hQ.2.2.2⟩ d_Ca_init_53 ?_
  refine n_dup (pc := 56) hX d_Ca_init_56 (cr_cat _ _) ?_
  refine n_initN (pc := 57) hX hR lkc_Ca_26 mc_Mx (ci_Mx 141 15 140 19 _ (by decide) (by decide) (by decide) (by decide) (by decide) ⟨by decide, by decide⟩) rfl (by decide) rfl rfl (by decide) ⟨Nat.le_trans (by decide) hQ.2.2.1, Nat.le_trans (by decide) hQ.2.2.2⟩ (alo_le (by decide)) (cat_sum _ (Nat.le_of_ble_eq_true rfl)) d_Ca_init_57 ?_
  refine n_putR (pc := 60) (v := 15) (ix := 132) hX hini flc_Ca_37 rfl rfl (Or.inl ⟨_, rfl⟩) rfl (by decide) (by decide) d_Ca_init_60 ?_
  refine n_aload_n (pc := 63) hX d_Ca_init_63 rfl 0 rfl ?_
  refine n_iconst (pc := 64) (v := 3) hX d_Ca_init_64 (by decide) ?_
  refine n_anew (pc := 65) (k := 10) (N := 3) hX (in_tbl 194 (by decide +kernel)) (by decide) (by decide) (by decide) (by decide) (by decide) (by decide) ⟨Nat.le_trans (by decide) hQ.2.2.1, Nat.le_trans (by decide) hQ.2.2.2⟩ d_Ca_init_65 ?_
  refine n_putR (pc := 68) (v := 10) (ix := 132) hX hini flc_Ca_42 rfl rfl (Or.inr ⟨_, rfl⟩) rfl (by decide) (by decide) d_Ca_init_68 ?_
  refine n_aload_n (pc := 71) hX d_Ca_init_71 rfl 0 rfl ?_
  refine n_sipush (pc := 72) (v := 240) hX d_Ca_init_72 (by decide) ?_
  refine n_newarr (pc := 75) (kk0 := 53) (k := 11) (N := 240) hX (by decide) rfl aw_double (by decide) (by decide) (by decide) (by decide) (by decide) (by decide) ⟨Nat.le_trans (by decide) hQ.2.2.1, Nat.le_trans (by decide) hQ.2.2.2⟩ d_Ca_init_75 ?_
  refine n_putR (pc := 77) (v := 11) (ix := 132) hX hini flc_Ca_46 rfl rfl (Or.inr ⟨_, rfl⟩) rfl (by decide) (by decide) d_Ca_init_77 ?_
  exact n_vret (pc := 80) hX hQ rfl rfl rfl rfl d_Ca_init_80
def m_Mo (A : Mem) : Mem := (sR (sR (sR (sR (sR (sR (sR (sR (sR (sR (sR (sR (sR (sR (sR (sR (sR (sI (sI (sI (sI (sI (sI (sI (sI (sI (sI (sI (sI (sR (sR (sR (sR (sR (sR (sR (sR (sI (sI (sI (sI (sI (sI (sI (sI A 250 0 0) 250 1 0) 250 2 0) 250 3 (-1)) 250 4 0) 250 5 0) 250 6 0) 250 7 0) 250 8 251) 250 9 252) 250 10 253) 250 11 254) 250 12 255) 250 13 256) 250 14 257) 250 15 258) 250 16 0) 250 17 (-1)) 250 18 0) 250 19 0) 250 20 0) 250 21 0) 250 22 0) 250 23 0) 250 24 0) 250 25 0) 250 26 0) 250 27 0) 250 28 259) 250 29 260) 250 30 261) 250 31 262) 250 32 263) 250 33 264) 250 34 265) 250 35 266) 250 36 267) 250 37 268) 250 38 269) 250 39 270) 250 40 271) 250 41 272) 250 42 273) 250 43 274) 250 44 275)
set_option maxHeartbeats 1000000 in
theorem ci_Mo (A : Mem) : CtC y_Mo_init prog_14_method_1_code 1 1 20 25 5141 153 250 A (m_Mo A) := by
  refine ctC_of (own := "BasicMachineModel") (by decide) rfl rfl (by decide) (fun X E hX hini hR hN hQ => ?_)
  refine n_aload_n (pc := 0) hX d_Mo_init_0 rfl 0 rfl ?_
  refine n_objinit (pc := 1) hX hR (by decide) (in_tbl 1164 (by decide +kernel)) ow (by decide) (cat_sum _ (Nat.le_of_ble_eq_true rfl)) d_Mo_init_1 ?_
  refine n_aload_n (pc := 4) hX d_Mo_init_4 rfl 0 rfl ?_
  refine n_iconst (pc := 5) (v := 0) hX d_Mo_init_5 (by decide) ?_
  refine n_putI (pc := 6) (v := 0) (ix := 152) hX hini flc_Mo_7 rfl rfl (Or.inl rfl) rfl (by decide) (by decide) d_Mo_init_6 ?_
  refine n_aload_n (pc := 9) hX d_Mo_init_9 rfl 0 rfl ?_
  refine n_iconst (pc := 10) (v := 0) hX d_Mo_init_10 (by decide) ?_
  refine n_putI (pc := 11) (v := 0) (ix := 152) hX hini flc_Mo_13 rfl rfl (Or.inl rfl) rfl (by decide) (by decide) d_Mo_init_11 ?_
  refine n_aload_n (pc := 14) hX d_Mo_init_14 rfl 0 rfl ?_
  refine n_iconst (pc := 15) (v := 0) hX d_Mo_init_15 (by decide) ?_
  refine n_putI (pc := 16) (v := 0) (ix := 152) hX hini flc_Mo_16 rfl rfl (Or.inl rfl) rfl (by decide) (by decide) d_Mo_init_16 ?_
  refine n_aload_n (pc := 19) hX d_Mo_init_19 rfl 0 rfl ?_
  refine n_iconst (pc := 20) (v := (-1)) hX d_Mo_init_20 (by decide) ?_
  refine n_putI (pc := 21) (v := (-1)) (ix := 152) hX hini flc_Mo_19 rfl rfl (Or.inl rfl) rfl (by decide) (by decide) d_Mo_init_21 ?_
  refine n_aload_n (pc := 24) hX d_Mo_init_24 rfl 0 rfl ?_
  refine n_iconst (pc := 25) (v := 0) hX d_Mo_init_25 (by decide) ?_
  refine n_putI (pc := 26) (v := 0) (ix := 152) hX hini flc_Mo_22 rfl rfl (Or.inl rfl) rfl (by decide) (by decide) d_Mo_init_26 ?_
  refine n_aload_n (pc := 29) hX d_Mo_init_29 rfl 0 rfl ?_
  refine n_iconst (pc := 30) (v := 0) hX d_Mo_init_30 (by decide) ?_
  refine n_putI (pc := 31) (v := 0) (ix := 152) hX hini flc_Mo_25 rfl rfl (Or.inl rfl) rfl (by decide) (by decide) d_Mo_init_31 ?_
  refine n_aload_n (pc := 34) hX d_Mo_init_34 rfl 0 rfl ?_
  refine n_iconst (pc := 35) (v := 0) hX d_Mo_init_35 (by decide) ?_
  refine n_putI (pc := 36) (v := 0) (ix := 152) hX hini flc_Mo_28 rfl rfl (Or.inl rfl) rfl (by decide) (by decide) d_Mo_init_36 ?_
  refine n_aload_n (pc := 39) hX d_Mo_init_39 rfl 0 rfl ?_
  refine n_iconst (pc := 40) (v := 0) hX d_Mo_init_40 (by decide) ?_
  refine n_putI (pc := 41) (v := 0) (ix := 152) hX hini flc_Mo_31 rfl rfl (Or.inr ⟨rfl, Or.inl rfl⟩) rfl (by decide) (by decide) d_Mo_init_41 ?_
  refine n_aload_n (pc := 44) hX d_Mo_init_44 rfl 0 rfl ?_
  refine n_bipush (pc := 45) (v := 60) hX d_Mo_init_45 (by decide) ?_
  refine n_newarr (pc := 47) (kk0 := 52) (k := 251) (N := 60) hX (by decide) rfl aw_char (by decide) (by decide) (by decide) (by decide) (by decide) (by decide) ⟨Nat.le_trans (by decide) hQ.2.2.1, Nat.le_trans (by decide) hQ.2.2.2⟩ d_Mo_init_47 ?_
  refine n_putR (pc := 49) (v := 251) (ix := 152) hX hini flc_Mo_35 rfl rfl (Or.inr ⟨_, rfl⟩) rfl (by decide) (by decide) d_Mo_init_49 ?_
  refine n_aload_n (pc := 52) hX d_Mo_init_52 rfl 0 rfl ?_
  refine n_bipush (pc := 53) (v := 60) hX d_Mo_init_53 (by decide) ?_
  refine n_newarr (pc := 55) (kk0 := 52) (k := 252) (N := 60) hX (by decide) rfl aw_char (by decide) (by decide) (by decide) (by decide) (by decide) (by decide) ⟨Nat.le_trans (by decide) hQ.2.2.1, Nat.le_trans (by decide) hQ.2.2.2⟩ d_Mo_init_55 ?_
  refine n_putR (pc := 57) (v := 252) (ix := 152) hX hini flc_Mo_39 rfl rfl (Or.inr ⟨_, rfl⟩) rfl (by decide) (by decide) d_Mo_init_57 ?_
  refine n_aload_n (pc := 60) hX d_Mo_init_60 rfl 0 rfl ?_
  refine n_bipush (pc := 61) (v := 25) hX d_Mo_init_61 (by decide) ?_
  refine n_newarr (pc := 63) (kk0 := 51) (k := 253) (N := 25) hX (by decide) rfl aw_int (by decide) (by decide) (by decide) (by decide) (by decide) (by decide) ⟨Nat.le_trans (by decide) hQ.2.2.1, Nat.le_trans (by decide) hQ.2.2.2⟩ d_Mo_init_63 ?_
  refine n_putR (pc := 65) (v := 253) (ix := 152) hX hini flc_Mo_42 rfl rfl (Or.inr ⟨_, rfl⟩) rfl (by decide) (by decide) d_Mo_init_65 ?_
  refine n_aload_n (pc := 68) hX d_Mo_init_68 rfl 0 rfl ?_
  refine n_bipush (pc := 69) (v := 25) hX d_Mo_init_69 (by decide) ?_
  refine n_newarr (pc := 71) (kk0 := 51) (k := 254) (N := 25) hX (by decide) rfl aw_int (by decide) (by decide) (by decide) (by decide) (by decide) (by decide) ⟨Nat.le_trans (by decide) hQ.2.2.1, Nat.le_trans (by decide) hQ.2.2.2⟩ d_Mo_init_71 ?_
  refine n_putR (pc := 73) (v := 254) (ix := 152) hX hini flc_Mo_46 rfl rfl (Or.inr ⟨_, rfl⟩) rfl (by decide) (by decide) d_Mo_init_73 ?_
  refine n_aload_n (pc := 76) hX d_Mo_init_76 rfl 0 rfl ?_
  refine n_sipush (pc := 77) (v := 200) hX d_Mo_init_77 (by decide) ?_
  refine n_newarr (pc := 80) (kk0 := 51) (k := 255) (N := 200) hX (by decide) rfl aw_int (by decide) (by decide) (by decide) (by decide) (by decide) (by decide) ⟨Nat.le_trans (by decide) hQ.2.2.1, Nat.le_trans (by decide) hQ.2.2.2⟩ d_Mo_init_80 ?_
  refine n_putR (pc := 82) (v := 255) (ix := 152) hX hini flc_Mo_49 rfl rfl (Or.inr ⟨_, rfl⟩) rfl (by decide) (by decide) d_Mo_init_82 ?_
  refine n_aload_n (pc := 85) hX d_Mo_init_85 rfl 0 rfl ?_
  refine n_bipush (pc := 86) (v := 100) hX d_Mo_init_86 (by decide) ?_
  refine n_newarr (pc := 88) (kk0 := 51) (k := 256) (N := 100) hX (by decide) rfl aw_int (by decide) (by decide) (by decide) (by decide) (by decide) (by decide) ⟨Nat.le_trans (by decide) hQ.2.2.1, Nat.le_trans (by decide) hQ.2.2.2⟩ d_Mo_init_88 ?_
  refine n_putR (pc := 90) (v := 256) (ix := 152) hX hini flc_Mo_52 rfl rfl (Or.inr ⟨_, rfl⟩) rfl (by decide) (by decide) d_Mo_init_90 ?_
  refine n_aload_n (pc := 93) hX d_Mo_init_93 rfl 0 rfl ?_
  refine n_sipush (pc := 94) (v := 4000) hX d_Mo_init_94 (by decide) ?_
  refine n_newarr (pc := 97) (kk0 := 51) (k := 257) (N := 4000) hX (by decide) rfl aw_int (by decide) (by decide) (by decide) (by decide) (by decide) (by decide) ⟨Nat.le_trans (by decide) hQ.2.2.1, Nat.le_trans (by decide) hQ.2.2.2⟩ d_Mo_init_97 ?_
  refine n_putR (pc := 99) (v := 257) (ix := 152) hX hini flc_Mo_55 rfl rfl (Or.inr ⟨_, rfl⟩) rfl (by decide) (by decide) d_Mo_init_99 ?_
  refine n_aload_n (pc := 102) hX d_Mo_init_102 rfl 0 rfl ?_
  refine n_bipush (pc := 103) (v := 64) hX d_Mo_init_103 (by decide) ?_
  refine n_newarr (pc := 105) (kk0 := 51) (k := 258) (N := 64) hX (by decide) rfl aw_int (by decide) (by decide) (by decide) (by decide) (by decide) (by decide) ⟨Nat.le_trans (by decide) hQ.2.2.1, Nat.le_trans (by decide) hQ.2.2.2⟩ d_Mo_init_105 ?_
  refine n_putR (pc := 107) (v := 258) (ix := 152) hX hini flc_Mo_58 rfl rfl (Or.inr ⟨_, rfl⟩) rfl (by decide) (by decide) d_Mo_init_107 ?_
  refine n_aload_n (pc := 110) hX d_Mo_init_110 rfl 0 rfl ?_
  refine n_iconst (pc := 111) (v := 0) hX d_Mo_init_111 (by decide) ?_
  refine n_putI (pc := 112) (v := 0) (ix := 152) hX hini flc_Mo_61 rfl rfl (Or.inl rfl) rfl (by decide) (by decide) d_Mo_init_112 ?_
  refine n_aload_n (pc := 115) hX d_Mo_init_115 rfl 0 rfl ?_
  refine n_iconst (pc := 116) (v := (-1)) hX d_Mo_init_116 (by decide) ?_
  refine n_putI (pc := 117) (v := (-1)) (ix := 152) hX hini flc_Mo_64 rfl rfl (Or.inl rfl) rfl (by decide) (by decide) d_Mo_init_117 ?_
  refine n_aload_n (pc := 120) hX d_Mo_init_120 rfl 0 rfl ?_
  refine n_iconst (pc := 121) (v := 0) hX d_Mo_init_121 (by decide) ?_
  refine n_putI (pc := 122) (v := 0) (ix := 152) hX hini flc_Mo_67 rfl rfl (Or.inl rfl) rfl (by decide) (by decide) d_Mo_init_122 ?_
  refine n_aload_n (pc := 125) hX d_Mo_init_125 rfl 0 rfl ?_
  refine n_iconst (pc := 126) (v := 0) hX d_Mo_init_126 (by decide) ?_
  refine n_putI (pc := 127) (v := 0) (ix := 152) hX hini flc_Mo_70 rfl rfl (Or.inl rfl) rfl (by decide) (by decide) d_Mo_init_127 ?_
  refine n_aload_n (pc := 130) hX d_Mo_init_130 rfl 0 rfl ?_
  refine n_iconst (pc := 131) (v := 0) hX d_Mo_init_131 (by decide) ?_
  refine n_putI (pc := 132) (v := 0) (ix := 152) hX hini flc_Mo_73 rfl rfl (Or.inl rfl) rfl (by decide) (by decide) d_Mo_init_132 ?_
  refine n_aload_n (pc := 135) hX d_Mo_init_135 rfl 0 rfl ?_
  refine n_iconst (pc := 136) (v := 0) hX d_Mo_init_136 (by decide) ?_
  refine n_putI (pc := 137) (v := 0) (ix := 152) hX hini flc_Mo_76 rfl rfl (Or.inl rfl) rfl (by decide) (by decide) d_Mo_init_137 ?_
  refine n_aload_n (pc := 140) hX d_Mo_init_140 rfl 0 rfl ?_
  refine n_iconst (pc := 141) (v := 0) hX d_Mo_init_141 (by decide) ?_
  refine n_putI (pc := 142) (v := 0) (ix := 152) hX hini flc_Mo_79 rfl rfl (Or.inl rfl) rfl (by decide) (by decide) d_Mo_init_142 ?_
  refine n_aload_n (pc := 145) hX d_Mo_init_145 rfl 0 rfl ?_
  refine n_iconst (pc := 146) (v := 0) hX d_Mo_init_146 (by decide) ?_
  refine n_putI (pc := 147) (v := 0) (ix := 152) hX hini flc_Mo_82 rfl rfl (Or.inl rfl) rfl (by decide) (by decide) d_Mo_init_147 ?_
  refine n_aload_n (pc := 150) hX d_Mo_init_150 rfl 0 rfl ?_
  refine n_iconst (pc := 151) (v := 0) hX d_Mo_init_151 (by decide) ?_
  refine n_putI (pc := 152) (v := 0) (ix := 152) hX hini flc_Mo_85 rfl rfl (Or.inl rfl) rfl (by decide) (by decide) d_Mo_init_152 ?_
  refine n_aload_n (pc := 155) hX d_Mo_init_155 rfl 0 rfl ?_
  refine n_iconst (pc := 156) (v := 0) hX d_Mo_init_156 (by decide) ?_
  refine n_putI (pc := 157) (v := 0) (ix := 152) hX hini flc_Mo_88 rfl rfl (Or.inl rfl) rfl (by decide) (by decide) d_Mo_init_157 ?_
  refine n_aload_n (pc := 160) hX d_Mo_init_160 rfl 0 rfl ?_
  refine n_iconst (pc := 161) (v := 0) hX d_Mo_init_161 (by decide) ?_
  refine n_putI (pc := 162) (v := 0) (ix := 152) hX hini flc_Mo_91 rfl rfl (Or.inl rfl) rfl (by decide) (by decide) d_Mo_init_162 ?_
  refine n_aload_n (pc := 165) hX d_Mo_init_165 rfl 0 rfl ?_
  refine n_iconst (pc := 166) (v := 0) hX d_Mo_init_166 (by decide) ?_
  refine n_putI (pc := 167) (v := 0) (ix := 152) hX hini flc_Mo_94 rfl rfl (Or.inl rfl) rfl (by decide) (by decide) d_Mo_init_167 ?_
  refine n_aload_n (pc := 170) hX d_Mo_init_170 rfl 0 rfl ?_
  refine n_bipush (pc := 171) (v := 40) hX d_Mo_init_171 (by decide) ?_
  refine n_newarr (pc := 173) (kk0 := 53) (k := 259) (N := 40) hX (by decide) rfl aw_double (by decide) (by decide) (by decide) (by decide) (by decide) (by decide) ⟨Nat.le_trans (by decide) hQ.2.2.1, Nat.le_trans (by decide) hQ.2.2.2⟩ d_Mo_init_173 ?_
  refine n_putR (pc := 175) (v := 259) (ix := 152) hX hini flc_Mo_97 rfl rfl (Or.inr ⟨_, rfl⟩) rfl (by decide) (by decide) d_Mo_init_175 ?_
  refine n_aload_n (pc := 178) hX d_Mo_init_178 rfl 0 rfl ?_
  refine n_bipush (pc := 179) (v := 26) hX d_Mo_init_179 (by decide) ?_
  refine n_newarr (pc := 181) (kk0 := 53) (k := 260) (N := 26) hX (by decide) rfl aw_double (by decide) (by decide) (by decide) (by decide) (by decide) (by decide) ⟨Nat.le_trans (by decide) hQ.2.2.1, Nat.le_trans (by decide) hQ.2.2.2⟩ d_Mo_init_181 ?_
  refine n_putR (pc := 183) (v := 260) (ix := 152) hX hini flc_Mo_101 rfl rfl (Or.inr ⟨_, rfl⟩) rfl (by decide) (by decide) d_Mo_init_183 ?_
  refine n_aload_n (pc := 186) hX d_Mo_init_186 rfl 0 rfl ?_
  refine n_sipush (pc := 187) (v := 200) hX d_Mo_init_187 (by decide) ?_
  refine n_newarr (pc := 190) (kk0 := 53) (k := 261) (N := 200) hX (by decide) rfl aw_double (by decide) (by decide) (by decide) (by decide) (by decide) (by decide) ⟨Nat.le_trans (by decide) hQ.2.2.1, Nat.le_trans (by decide) hQ.2.2.2⟩ d_Mo_init_190 ?_
  refine n_putR (pc := 192) (v := 261) (ix := 152) hX hini flc_Mo_104 rfl rfl (Or.inr ⟨_, rfl⟩) rfl (by decide) (by decide) d_Mo_init_192 ?_
  refine n_aload_n (pc := 195) hX d_Mo_init_195 rfl 0 rfl ?_
  refine n_sipush (pc := 196) (v := 144) hX d_Mo_init_196 (by decide) ?_
  refine n_newarr (pc := 199) (kk0 := 53) (k := 262) (N := 144) hX (by decide) rfl aw_double (by decide) (by decide) (by decide) (by decide) (by decide) (by decide) ⟨Nat.le_trans (by decide) hQ.2.2.1, Nat.le_trans (by decide) hQ.2.2.2⟩ d_Mo_init_199 ?_
  refine n_putR (pc := 201) (v := 262) (ix := 152) hX hini flc_Mo_107 rfl rfl (Or.inr ⟨_, rfl⟩) rfl (by decide) (by decide) d_Mo_init_201 ?_
  refine n_aload_n (pc := 204) hX d_Mo_init_204 rfl 0 rfl ?_
  refine n_bipush (pc := 205) (v := 6) hX d_Mo_init_205 (by decide) ?_
  refine n_newarr (pc := 207) (kk0 := 53) (k := 263) (N := 6) hX (by decide) rfl aw_double (by decide) (by decide) (by decide) (by decide) (by decide) (by decide) ⟨Nat.le_trans (by decide) hQ.2.2.1, Nat.le_trans (by decide) hQ.2.2.2⟩ d_Mo_init_207 ?_
  refine n_putR (pc := 209) (v := 263) (ix := 152) hX hini flc_Mo_110 rfl rfl (Or.inr ⟨_, rfl⟩) rfl (by decide) (by decide) d_Mo_init_209 ?_
  refine n_aload_n (pc := 212) hX d_Mo_init_212 rfl 0 rfl ?_
  refine n_bipush (pc := 213) (v := 6) hX d_Mo_init_213 (by decide) ?_
  refine n_newarr (pc := 215) (kk0 := 53) (k := 264) (N := 6) hX (by decide) rfl aw_double (by decide) (by decide) (by decide) (by decide) (by decide) (by decide) ⟨Nat.le_trans (by decide) hQ.2.2.1, Nat.le_trans (by decide) hQ.2.2.2⟩ d_Mo_init_215 ?_
  refine n_putR (pc := 217) (v := 264) (ix := 152) hX hini flc_Mo_113 rfl rfl (Or.inr ⟨_, rfl⟩) rfl (by decide) (by decide) d_Mo_init_217 ?_
  refine n_aload_n (pc := 220) hX d_Mo_init_220 rfl 0 rfl ?_
  refine n_iconst (pc := 221) (v := 4) hX d_Mo_init_221 (by decide) ?_
  refine n_newarr (pc := 222) (kk0 := 53) (k := 265) (N := 4) hX (by decide) rfl aw_double (by decide) (by decide) (by decide) (by decide) (by decide) (by decide) ⟨Nat.le_trans (by decide) hQ.2.2.1, Nat.le_trans (by decide) hQ.2.2.2⟩ d_Mo_init_222 ?_
  refine n_putR (pc := 224) (v := 265) (ix := 152) hX hini flc_Mo_116 rfl rfl (Or.inr ⟨_, rfl⟩) rfl (by decide) (by decide) d_Mo_init_224 ?_
  refine n_aload_n (pc := 227) hX d_Mo_init_227 rfl 0 rfl ?_
  refine n_bipush (pc := 228) (v := 108) hX d_Mo_init_228 (by decide) ?_
  refine n_newarr (pc := 230) (kk0 := 53) (k := 266) (N := 108) hX (by decide) rfl aw_double (by decide) (by decide) (by decide) (by decide) (by decide) (by decide) ⟨Nat.le_trans (by decide) hQ.2.2.1, Nat.le_trans (by decide) hQ.2.2.2⟩ d_Mo_init_230 ?_
  refine n_putR (pc := 232) (v := 266) (ix := 152) hX hini flc_Mo_119 rfl rfl (Or.inr ⟨_, rfl⟩) rfl (by decide) (by decide) d_Mo_init_232 ?_
  refine n_aload_n (pc := 235) hX d_Mo_init_235 rfl 0 rfl ?_
  refine n_bipush (pc := 236) (v := 36) hX d_Mo_init_236 (by decide) ?_
  refine n_newarr (pc := 238) (kk0 := 53) (k := 267) (N := 36) hX (by decide) rfl aw_double (by decide) (by decide) (by decide) (by decide) (by decide) (by decide) ⟨Nat.le_trans (by decide) hQ.2.2.1, Nat.le_trans (by decide) hQ.2.2.2⟩ d_Mo_init_238 ?_
  refine n_putR (pc := 240) (v := 267) (ix := 152) hX hini flc_Mo_122 rfl rfl (Or.inr ⟨_, rfl⟩) rfl (by decide) (by decide) d_Mo_init_240 ?_
  refine n_aload_n (pc := 243) hX d_Mo_init_243 rfl 0 rfl ?_
  refine n_iconst (pc := 244) (v := 3) hX d_Mo_init_244 (by decide) ?_
  refine n_newarr (pc := 245) (kk0 := 51) (k := 268) (N := 3) hX (by decide) rfl aw_int (by decide) (by decide) (by decide) (by decide) (by decide) (by decide) ⟨Nat.le_trans (by decide) hQ.2.2.1, Nat.le_trans (by decide) hQ.2.2.2⟩ d_Mo_init_245 ?_
  refine n_putR (pc := 247) (v := 268) (ix := 152) hX hini flc_Mo_125 rfl rfl (Or.inr ⟨_, rfl⟩) rfl (by decide) (by decide) d_Mo_init_247 ?_
  refine n_aload_n (pc := 250) hX d_Mo_init_250 rfl 0 rfl ?_
  refine n_iconst (pc := 251) (v := 3) hX d_Mo_init_251 (by decide) ?_
  refine n_newarr (pc := 252) (kk0 := 51) (k := 269) (N := 3) hX (by decide) rfl aw_int (by decide) (by decide) (by decide) (by decide) (by decide) (by decide) ⟨Nat.le_trans (by decide) hQ.2.2.1, Nat.le_trans (by decide) hQ.2.2.2⟩ d_Mo_init_252 ?_
  refine n_putR (pc := 254) (v := 269) (ix := 152) hX hini flc_Mo_128 rfl rfl (Or.inr ⟨_, rfl⟩) rfl (by decide) (by decide) d_Mo_init_254 ?_
  refine n_aload_n (pc := 257) hX d_Mo_init_257 rfl 0 rfl ?_
  refine n_iconst (pc := 258) (v := 3) hX d_Mo_init_258 (by decide) ?_
  refine n_newarr (pc := 259) (kk0 := 51) (k := 270) (N := 3) hX (by decide) rfl aw_int (by decide) (by decide) (by decide) (by decide) (by decide) (by decide) ⟨Nat.le_trans (by decide) hQ.2.2.1, Nat.le_trans (by decide) hQ.2.2.2⟩ d_Mo_init_259 ?_
  refine n_putR (pc := 261) (v := 270) (ix := 152) hX hini flc_Mo_131 rfl rfl (Or.inr ⟨_, rfl⟩) rfl (by decide) (by decide) d_Mo_init_261 ?_
  refine n_aload_n (pc := 264) hX d_Mo_init_264 rfl 0 rfl ?_
  refine n_bipush (pc := 265) (v := 8) hX d_Mo_init_265 (by decide) ?_
  refine n_newarr (pc := 267) (kk0 := 51) (k := 271) (N := 8) hX (by decide) rfl aw_int (by decide) (by decide) (by decide) (by decide) (by decide) (by decide) ⟨Nat.le_trans (by decide) hQ.2.2.1, Nat.le_trans (by decide) hQ.2.2.2⟩ d_Mo_init_267 ?_
  refine n_putR (pc := 269) (v := 271) (ix := 152) hX hini flc_Mo_134 rfl rfl (Or.inr ⟨_, rfl⟩) rfl (by decide) (by decide) d_Mo_init_269 ?_
  refine n_aload_n (pc := 272) hX d_Mo_init_272 rfl 0 rfl ?_
  refine n_bipush (pc := 273) (v := 6) hX d_Mo_init_273 (by decide) ?_
  refine n_newarr (pc := 275) (kk0 := 51) (k := 272) (N := 6) hX (by decide) rfl aw_int (by decide) (by decide) (by decide) (by decide) (by decide) (by decide) ⟨Nat.le_trans (by decide) hQ.2.2.1, Nat.le_trans (by decide) hQ.2.2.2⟩ d_Mo_init_275 ?_
  refine n_putR (pc := 277) (v := 272) (ix := 152) hX hini flc_Mo_137 rfl rfl (Or.inr ⟨_, rfl⟩) rfl (by decide) (by decide) d_Mo_init_277 ?_
  refine n_aload_n (pc := 280) hX d_Mo_init_280 rfl 0 rfl ?_
  refine n_bipush (pc := 281) (v := 6) hX d_Mo_init_281 (by decide) ?_
  refine n_newarr (pc := 283) (kk0 := 51) (k := 273) (N := 6) hX (by decide) rfl aw_int (by decide) (by decide) (by decide) (by decide) (by decide) (by decide) ⟨Nat.le_trans (by decide) hQ.2.2.1, Nat.le_trans (by decide) hQ.2.2.2⟩ d_Mo_init_283 ?_
  refine n_putR (pc := 285) (v := 273) (ix := 152) hX hini flc_Mo_140 rfl rfl (Or.inr ⟨_, rfl⟩) rfl (by decide) (by decide) d_Mo_init_285 ?_
  refine n_aload_n (pc := 288) hX d_Mo_init_288 rfl 0 rfl ?_
  refine n_iconst (pc := 289) (v := 4) hX d_Mo_init_289 (by decide) ?_
  refine n_newarr (pc := 290) (kk0 := 51) (k := 274) (N := 4) hX (by decide) rfl aw_int (by decide) (by decide) (by decide) (by decide) (by decide) (by decide) ⟨Nat.le_trans (by decide) hQ.2.2.1, Nat.le_trans (by decide) hQ.2.2.2⟩ d_Mo_init_290 ?_
  refine n_putR (pc := 292) (v := 274) (ix := 152) hX hini flc_Mo_143 rfl rfl (Or.inr ⟨_, rfl⟩) rfl (by decide) (by decide) d_Mo_init_292 ?_
  refine n_aload_n (pc := 295) hX d_Mo_init_295 rfl 0 rfl ?_
  refine n_iconst (pc := 296) (v := 4) hX d_Mo_init_296 (by decide) ?_
  refine n_newarr (pc := 297) (kk0 := 51) (k := 275) (N := 4) hX (by decide) rfl aw_int (by decide) (by decide) (by decide) (by decide) (by decide) (by decide) ⟨Nat.le_trans (by decide) hQ.2.2.1, Nat.le_trans (by decide) hQ.2.2.2⟩ d_Mo_init_297 ?_
  refine n_putR (pc := 299) (v := 275) (ix := 152) hX hini flc_Mo_146 rfl rfl (Or.inr ⟨_, rfl⟩) rfl (by decide) (by decide) d_Mo_init_299 ?_
  exact n_vret (pc := 302) hX hQ rfl rfl rfl rfl d_Mo_init_302
def m_Pr_l : Nat → Mem → Mem
  | 0, A => A
  | j + 1, A => sR (m_Li (101 + j) (131 + j) (161 + j) (191 + j) (221 + j) (m_Pr_l j A)) 7 j (101 + j)
def m_Pr (A : Mem) : Mem := m_Pr_l 24 (sR A 6 1 7)
theorem ln_at : ∀ j, j < 24 → (alo[12 + 5 * j]? = some (101 + j) ∧ alo[13 + 5 * j]? = some (131 + j) ∧ alo[14 + 5 * j]? = some (161 + j) ∧ alo[15 + 5 * j]? = some (191 + j) ∧ alo[16 + 5 * j]? = some (221 + j)) ∧ kd (101 + j) = 3 ∧ (kd (131 + j) = 51 ∧ al (131 + j) = 6) ∧ (kd (161 + j) = 51 ∧ al (161 + j) = 60) ∧ (kd (191 + j) = 51 ∧ al (191 + j) = 60) ∧ (kd (221 + j) = 51 ∧ al (221 + j) = 3) := by decide +kernel
theorem ln_i : ∀ j, j < 24 → ¬ (24 : Int32) ≤ Int32.ofNat j ∧ (Int32.ofNat j).toNatClampNeg = j ∧ ¬ Int32.ofNat j < 0 := by decide +kernel
theorem m_Pr_6 (A : Mem) : ∀ j, gR (m_Pr_l j (sR A 6 1 7)) 6 1 = 7 := by
  intro j
  induction j with
  | zero => rfl
  | succ j ih =>
    have e1 : ¬ (6 : Nat) = 101 + j := by omega
    unfold m_Pr_l m_Li
    simp [gR, sR, up2, e1] at ih ⊢
    exact ih
set_option maxHeartbeats 2000000 in
theorem k_Pr_loop {X : CXT} {E : EVT} {A : Mem} (hX : Gc X E "BasicMachine$Program" prog_11_method_1_code 11) (hini : (xmeth X).name = "<init>") (hR : 2 ≤ (xR X).frames ∧ 40 ≤ (xR X).locals) (hN : xnL X = 2) (hQ : QC X E 11 121 3480 (m_Pr A)) : ∀ d j, j + d = 24 → GN X E 11 (1 + 5 * j) (24 + 144 * j) (m_Pr_l j (sR A 6 1 7)) 15 [(0, cr E 6), (1, .int (Int32.ofNat j))] [] := by
  intro d
  induction d with
  | zero =>
    intro j hj
    have hj' : j = 24 := by omega
    subst hj'
    refine n_iload_n (pc := 15) hX d_Pr_init_15 rfl 1 rfl ?_
    refine n_aload_n (pc := 16) hX d_Pr_init_16 rfl 0 rfl ?_
    refine n_getf (pc := 17) (ix := 10) (x := 6) hX flc_Pr_11 rfl (by decide) (by decide) d_Pr_init_17 ?_
    show GN X E 11 (1 + 5 * 24) (24 + 144 * 24) (m_Pr_l 24 (sR A 6 1 7)) 20 [(0, cr E 6), (1, .int (Int32.ofNat 24))] [cr E (gR (m_Pr_l 24 (sR A 6 1 7)) 6 1), .int (Int32.ofNat 24)]
    rw [m_Pr_6]
    refine n_alen55 (pc := 20) (ix := 11) (n := 24) hX (by decide) (by decide) (by decide) (by decide) d_Pr_init_20 ?_
    refine n_icmp_ge (pc := 21) (tgt := 43) hX d_Pr_init_21 (by decide) (fun q => ?_) (fun q => absurd (by decide) q)
    exact n_vret (pc := 43) hX hQ rfl rfl rfl rfl d_Pr_init_43
  | succ d ih =>
    intro j hj
    have hj24 : j < 24 := by omega
    obtain ⟨⟨a0, a1, a2, a3, a4⟩, k0, k1, k2, k3, k4⟩ := ln_at j hj24
    obtain ⟨i1, i2, i3⟩ := ln_i j hj24
    have hc0 : 1 + 5 * j + 1 ≤ 121 := by omega
    have hs0 : 24 + 144 * j + 15 ≤ 3480 := by omega
    have hc1 : 1 + 5 * j + 1 + 4 = 1 + 5 * (j + 1) := by omega
    have hs1 : 24 + 144 * j + 15 + 129 = 24 + 144 * (j + 1) := by omega
    have hc2 : 1 + 5 * (j + 1) ≤ 121 := by omega
    have hs2 : 24 + 144 * (j + 1) ≤ 3480 := by omega
    refine n_iload_n (pc := 15) hX d_Pr_init_15 rfl 1 rfl ?_
    refine n_aload_n (pc := 16) hX d_Pr_init_16 rfl 0 rfl ?_
    refine n_getf (pc := 17) (ix := 10) (x := 6) hX flc_Pr_11 rfl (by omega) (by decide) d_Pr_init_17 ?_
    show GN X E 11 (1 + 5 * j) (24 + 144 * j) (m_Pr_l j (sR A 6 1 7)) 20 [(0, cr E 6), (1, .int (Int32.ofNat j))] [cr E (gR (m_Pr_l j (sR A 6 1 7)) 6 1), .int (Int32.ofNat j)]
    rw [m_Pr_6]
    refine n_alen55 (pc := 20) (ix := 11) (n := 24) hX (by decide) (by omega) (by decide) (by decide) d_Pr_init_20 ?_
    refine n_icmp_ge (pc := 21) (tgt := 43) hX d_Pr_init_21 (by decide) (fun q => absurd q i1) (fun q => ?_)
    refine n_aload_n (pc := 24) hX d_Pr_init_24 rfl 0 rfl ?_
    refine n_getf (pc := 25) (ix := 10) (x := 6) hX flc_Pr_11 rfl (by omega) (by decide) d_Pr_init_25 ?_
    show GN X E 11 (1 + 5 * j) (24 + 144 * j) (m_Pr_l j (sR A 6 1 7)) 28 [(0, cr E 6), (1, .int (Int32.ofNat j))] [cr E (gR (m_Pr_l j (sR A 6 1 7)) 6 1)]
    rw [m_Pr_6]
    refine n_iload_n (pc := 28) hX d_Pr_init_28 rfl 1 rfl ?_
    refine n_new (pc := 29) (k := 101 + j) hX cf3 nw_Pr_9 (by rw [show 11 + (1 + 5 * j) = 12 + 5 * j by omega]; exact a0) k0 df_3 ⟨Nat.le_trans hc0 hQ.2.2.1, Nat.le_trans hs0 hQ.2.2.2⟩ d_Pr_init_29 ?_
    refine n_dup (pc := 32) hX d_Pr_init_32 (cr_cat _ _) ?_
    refine n_initN (pc := 33) hX hR lkc_Pr_17 mc_Li (ci_Li (13 + 5 * j) (101 + j) (12 + 5 * j) (131 + j) (161 + j) (191 + j) (221 + j) _ (by omega) (by omega) a0 k0 a1 k1 (by rw [show 13 + 5 * j + 1 = 14 + 5 * j by omega]; exact a2) k2 (by rw [show 13 + 5 * j + 2 = 15 + 5 * j by omega]; exact a3) k3 (by rw [show 13 + 5 * j + 3 = 16 + 5 * j by omega]; exact a4) k4) (by omega) (by omega) hc1 hs1 (by decide) ⟨Nat.le_trans hc2 hQ.2.2.1, Nat.le_trans hs2 hQ.2.2.2⟩ (alo_le (by omega)) (cat_sum _ (Nat.le_of_ble_eq_true rfl)) d_Pr_init_33 ?_
    refine n_aastore (pc := 36) (ix := 11) (iv := 12 + 5 * j) hX (by decide) (by omega) (by decide) k0 (by omega) a0 (by rw [show al 7 = 24 by decide]; intro q9; rcases q9 with q9 | q9; exact i3 q9; rw [i2] at q9; omega) d_Pr_init_36 ?_
    rw [i2]
    refine n_iinc (pc := 37) hX d_Pr_init_37 1 rfl (v := Int32.ofNat (j + 1)) (by rw [show Int32.ofInt 1 = Int32.ofNat 1 from rfl]; exact (Int32.ofNat_add j 1).symm) (by rw [hN]; decide) (lv0 := [(0, cr E 6)]) (by simp [cr_cat]) ?_
    refine n_goto (pc := 40) (tgt := 15) hX d_Pr_init_40 (by decide) ?_
    exact n_sub [1, 0] rfl (ih (j + 1) (by omega))
set_option maxHeartbeats 1000000 in
theorem ci_Pr (A : Mem) : CtC y_Pr_init prog_11_method_1_code 2 2 40 121 3480 11 6 A (m_Pr A) := by
  refine ctC_of (own := "BasicMachine$Program") (by decide) rfl rfl (by decide) (fun X E hX hini hR hN hQ => ?_)
  refine n_aload_n (pc := 0) hX d_Pr_init_0 rfl 0 rfl ?_
  refine n_objinit (pc := 1) hX hR (by decide) (in_tbl 154 (by decide +kernel)) ow (by decide) (cat_sum _ (Nat.le_of_ble_eq_true rfl)) d_Pr_init_1 ?_
  refine n_aload_n (pc := 4) hX d_Pr_init_4 rfl 0 rfl ?_
  refine n_bipush (pc := 5) (v := 24) hX d_Pr_init_5 (by decide) ?_
  refine n_anew (pc := 7) (k := 7) (N := 24) hX (in_tbl 155 (by decide +kernel)) (by decide) (by decide) (by decide) (by decide) (by decide) (by decide) ⟨Nat.le_trans (by decide) hQ.2.2.1, Nat.le_trans (by decide) hQ.2.2.2⟩ d_Pr_init_7 ?_
  refine n_putR (pc := 10) (v := 7) (ix := 10) hX hini flc_Pr_11 rfl rfl (Or.inr ⟨_, rfl⟩) rfl (by decide) (by decide) d_Pr_init_10 ?_
  refine n_iconst (pc := 13) (v := 0) hX d_Pr_init_13 (by decide) ?_
  refine n_istore_n (pc := 14) hX d_Pr_init_14 rfl (by rw [hN]; decide) (lv0 := [(0, cr E 6)]) (by simp [cr_cat]) ?_
  exact n_sub [1, 0] rfl (k_Pr_loop hX hini hR hN hQ 24 0 rfl)
def m_Ma (A : Mem) : Mem := (sR (sR (sI (sR (sR (m_Lo (sR (m_Ca (sR (m_Pr A) 5 0 6)) 5 1 8)) 5 2 20) 5 3 25) 5 9 (-1)) 5 11 26) 5 12 27)
set_option maxHeartbeats 1000000 in
theorem ci_Ma (A : Mem) : CtC y_Ma_init prog_8_method_1_code 1 3 61 142 4137 10 5 A (m_Ma A) := by
  refine ctC_of (own := "BasicMachine$Machine") (by decide) rfl rfl (by decide) (fun X E hX hini hR hN hQ => ?_)
  refine n_aload_n (pc := 0) hX d_Ma_init_0 rfl 0 rfl ?_
  refine n_objinit (pc := 1) hX hR (by decide) (in_tbl 148 (by decide +kernel)) ow (by decide) (cat_sum _ (Nat.le_of_ble_eq_true rfl)) d_Ma_init_1 ?_
  refine n_aload_n (pc := 4) hX d_Ma_init_4 rfl 0 rfl ?_
  refine n_new (pc := 5) (k := 6) hX cf5 nw_Ma_9 (by decide) (by decide) df_5 ⟨Nat.le_trans (by decide) hQ.2.2.1, Nat.le_trans (by decide) hQ.2.2.2⟩ d_Ma_init_5 ?_
  refine n_dup (pc := 8) hX d_Ma_init_8 (cr_cat _ _) ?_
  refine n_init (pc := 9) hX hR lkc_Ma_11 mc_Pr (ci_Pr _) rfl (by decide) rfl rfl (by decide) ⟨Nat.le_trans (by decide) hQ.2.2.1, Nat.le_trans (by decide) hQ.2.2.2⟩ (alo_le (by decide)) (cat_sum _ (Nat.le_of_ble_eq_true rfl)) d_Ma_init_9 ?_
  refine n_putR (pc := 12) (v := 6) (ix := 9) hX hini flc_Ma_12 rfl rfl (Or.inl ⟨_, rfl⟩) rfl (by decide) (by decide) d_Ma_init_12 ?_
  refine n_aload_n (pc := 15) hX d_Ma_init_15 rfl 0 rfl ?_
  refine n_new (pc := 16) (k := 8) hX cf6 nw_Ma_18 (by decide) (by decide) df_6 ⟨Nat.le_trans (by decide) hQ.2.2.1, Nat.le_trans (by decide) hQ.2.2.2⟩ d_Ma_init_16 ?_
  refine n_dup (pc := 19) hX d_Ma_init_19 (cr_cat _ _) ?_
  refine n_initN (pc := 20) hX hR lkc_Ma_20 mc_Ca (ci_Ca _) rfl (by decide) rfl rfl (by decide) ⟨Nat.le_trans (by decide) hQ.2.2.1, Nat.le_trans (by decide) hQ.2.2.2⟩ (alo_le (by decide)) (cat_sum _ (Nat.le_of_ble_eq_true rfl)) d_Ma_init_20 ?_
  refine n_putR (pc := 23) (v := 8) (ix := 9) hX hini flc_Ma_21 rfl rfl (Or.inl ⟨_, rfl⟩) rfl (by decide) (by decide) d_Ma_init_23 ?_
  refine n_aload_n (pc := 26) hX d_Ma_init_26 rfl 0 rfl ?_
  refine n_new (pc := 27) (k := 20) hX cf8 nw_Ma_25 (by decide) (by decide) df_8 ⟨Nat.le_trans (by decide) hQ.2.2.1, Nat.le_trans (by decide) hQ.2.2.2⟩ d_Ma_init_27 ?_
  refine n_dup (pc := 30) hX d_Ma_init_30 (cr_cat _ _) ?_
  refine n_initN (pc := 31) hX hR lkc_Ma_27 mc_Lo (ci_Lo _) rfl (by decide) rfl rfl (by decide) ⟨Nat.le_trans (by decide) hQ.2.2.1, Nat.le_trans (by decide) hQ.2.2.2⟩ (alo_le (by decide)) (cat_sum _ (Nat.le_of_ble_eq_true rfl)) d_Ma_init_31 ?_
  refine n_putR (pc := 34) (v := 20) (ix := 9) hX hini flc_Ma_28 rfl rfl (Or.inl ⟨_, rfl⟩) rfl (by decide) (by decide) d_Ma_init_34 ?_
  refine n_aload_n (pc := 37) hX d_Ma_init_37 rfl 0 rfl ?_
  refine n_bipush (pc := 38) (v := 40) hX d_Ma_init_38 (by decide) ?_
  refine n_newarr (pc := 40) (kk0 := 53) (k := 25) (N := 40) hX (by decide) rfl aw_double (by decide) (by decide) (by decide) (by decide) (by decide) (by decide) ⟨Nat.le_trans (by decide) hQ.2.2.1, Nat.le_trans (by decide) hQ.2.2.2⟩ d_Ma_init_40 ?_
  refine n_putR (pc := 42) (v := 25) (ix := 9) hX hini flc_Ma_32 rfl rfl (Or.inr ⟨_, rfl⟩) rfl (by decide) (by decide) d_Ma_init_42 ?_
  refine n_aload_n (pc := 45) hX d_Ma_init_45 rfl 0 rfl ?_
  refine n_iconst (pc := 46) (v := (-1)) hX d_Ma_init_46 (by decide) ?_
  refine n_putI (pc := 47) (v := (-1)) (ix := 9) hX hini flc_Ma_36 rfl rfl (Or.inl rfl) rfl (by decide) (by decide) d_Ma_init_47 ?_
  refine n_aload_n (pc := 50) hX d_Ma_init_50 rfl 0 rfl ?_
  refine n_bipush (pc := 51) (v := 8) hX d_Ma_init_51 (by decide) ?_
  refine n_newarr (pc := 53) (kk0 := 51) (k := 26) (N := 8) hX (by decide) rfl aw_int (by decide) (by decide) (by decide) (by decide) (by decide) (by decide) ⟨Nat.le_trans (by decide) hQ.2.2.1, Nat.le_trans (by decide) hQ.2.2.2⟩ d_Ma_init_53 ?_
  refine n_putR (pc := 55) (v := 26) (ix := 9) hX hini flc_Ma_40 rfl rfl (Or.inr ⟨_, rfl⟩) rfl (by decide) (by decide) d_Ma_init_55 ?_
  refine n_aload_n (pc := 58) hX d_Ma_init_58 rfl 0 rfl ?_
  refine n_sipush (pc := 59) (v := 144) hX d_Ma_init_59 (by decide) ?_
  refine n_newarr (pc := 62) (kk0 := 53) (k := 27) (N := 144) hX (by decide) rfl aw_double (by decide) (by decide) (by decide) (by decide) (by decide) (by decide) ⟨Nat.le_trans (by decide) hQ.2.2.1, Nat.le_trans (by decide) hQ.2.2.2⟩ d_Ma_init_62 ?_
  refine n_putR (pc := 64) (v := 27) (ix := 9) hX hini flc_Ma_44 rfl rfl (Or.inr ⟨_, rfl⟩) rfl (by decide) (by decide) d_Ma_init_64 ?_
  exact n_vret (pc := 67) hX hQ rfl rfl rfl rfl d_Ma_init_67
def m_BM (A : Mem) : Mem := (sR (m_Ma (sR (m_Pa (sI (sR A 1 0 2) 1 2 (-1))) 1 3 3)) 1 4 5)
set_option maxHeartbeats 1000000 in
theorem ci_BM (A : Mem) : CtC y_BM_init prog_1_method_1_code 1 4 81 151 4422 1 1 A (m_BM A) := by
  refine ctC_of (own := "BasicMachine") (by decide) rfl rfl (by decide) (fun X E hX hini hR hN hQ => ?_)
  refine n_aload_n (pc := 0) hX d_BM_init_0 rfl 0 rfl ?_
  refine n_objinit (pc := 1) hX hR (by decide) (in_tbl 35 (by decide +kernel)) ow (by decide) (cat_sum _ (Nat.le_of_ble_eq_true rfl)) d_BM_init_1 ?_
  refine n_aload_n (pc := 4) hX d_BM_init_4 rfl 0 rfl ?_
  refine n_bipush (pc := 5) (v := 60) hX d_BM_init_5 (by decide) ?_
  refine n_newarr (pc := 7) (kk0 := 52) (k := 2) (N := 60) hX (by decide) rfl aw_char (by decide) (by decide) (by decide) (by decide) (by decide) (by decide) ⟨Nat.le_trans (by decide) hQ.2.2.1, Nat.le_trans (by decide) hQ.2.2.2⟩ d_BM_init_7 ?_
  refine n_putR (pc := 9) (v := 2) (ix := 0) hX hini flc_BM_9 rfl rfl (Or.inr ⟨_, rfl⟩) rfl (by decide) (by decide) d_BM_init_9 ?_
  refine n_aload_n (pc := 12) hX d_BM_init_12 rfl 0 rfl ?_
  refine n_iconst (pc := 13) (v := (-1)) hX d_BM_init_13 (by decide) ?_
  refine n_putI (pc := 14) (v := (-1)) (ix := 0) hX hini flc_BM_13 rfl rfl (Or.inl rfl) rfl (by decide) (by decide) d_BM_init_14 ?_
  refine n_aload_n (pc := 17) hX d_BM_init_17 rfl 0 rfl ?_
  refine n_new (pc := 18) (k := 3) hX cf2 nw_BM_17 (by decide) (by decide) df_2 ⟨Nat.le_trans (by decide) hQ.2.2.1, Nat.le_trans (by decide) hQ.2.2.2⟩ d_BM_init_18 ?_
  refine n_dup (pc := 21) hX d_BM_init_21 (cr_cat _ _) ?_
  refine n_initN (pc := 22) hX hR lkc_BM_19 mc_Pa (ci_Pa _) rfl (by decide) rfl rfl (by decide) ⟨Nat.le_trans (by decide) hQ.2.2.1, Nat.le_trans (by decide) hQ.2.2.2⟩ (alo_le (by decide)) (cat_sum _ (Nat.le_of_ble_eq_true rfl)) d_BM_init_22 ?_
  refine n_putR (pc := 25) (v := 3) (ix := 0) hX hini flc_BM_20 rfl rfl (Or.inl ⟨_, rfl⟩) rfl (by decide) (by decide) d_BM_init_25 ?_
  refine n_aload_n (pc := 28) hX d_BM_init_28 rfl 0 rfl ?_
  refine n_new (pc := 29) (k := 5) hX cf4 nw_BM_24 (by decide) (by decide) df_4 ⟨Nat.le_trans (by decide) hQ.2.2.1, Nat.le_trans (by decide) hQ.2.2.2⟩ d_BM_init_29 ?_
  refine n_dup (pc := 32) hX d_BM_init_32 (cr_cat _ _) ?_
  refine n_initN (pc := 33) hX hR lkc_BM_26 mc_Ma (ci_Ma _) rfl (by decide) rfl rfl (by decide) ⟨Nat.le_trans (by decide) hQ.2.2.1, Nat.le_trans (by decide) hQ.2.2.2⟩ (alo_le (by decide)) (cat_sum _ (Nat.le_of_ble_eq_true rfl)) d_BM_init_33 ?_
  refine n_putR (pc := 36) (v := 5) (ix := 0) hX hini flc_BM_27 rfl rfl (Or.inl ⟨_, rfl⟩) rfl (by decide) (by decide) d_BM_init_36 ?_
  exact n_vret (pc := 39) hX hQ rfl rfl rfl rfl d_BM_init_39
