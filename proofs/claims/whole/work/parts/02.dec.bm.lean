def ld_JP_checkIndex : List (Nat × Instr × Nat) := [(0, .iload_n 0, 1), (1, .ifCond .lt (8), 3), (4, .iload_n 0, 1), (5, .iload_n 1, 1), (6, .if_icmp .lt (10), 3), (16, .iload_n 0, 1), (17, .ireturn, 1)]
theorem dd_JP_checkIndex : (ld_JP_checkIndex).all (dOK prog_30_method_11_code) = true := by decide +kernel
theorem d_JP_checkIndex_0 : decode prog_30_method_11_code 0 = .ok (.iload_n 0, 1) := dd_at dd_JP_checkIndex 0 rfl
theorem d_JP_checkIndex_1 : decode prog_30_method_11_code 1 = .ok (.ifCond .lt (8), 3) := dd_at dd_JP_checkIndex 1 rfl
theorem d_JP_checkIndex_4 : decode prog_30_method_11_code 4 = .ok (.iload_n 0, 1) := dd_at dd_JP_checkIndex 2 rfl
theorem d_JP_checkIndex_5 : decode prog_30_method_11_code 5 = .ok (.iload_n 1, 1) := dd_at dd_JP_checkIndex 3 rfl
theorem d_JP_checkIndex_6 : decode prog_30_method_11_code 6 = .ok (.if_icmp .lt (10), 3) := dd_at dd_JP_checkIndex 4 rfl
theorem d_JP_checkIndex_16 : decode prog_30_method_11_code 16 = .ok (.iload_n 0, 1) := dd_at dd_JP_checkIndex 5 rfl
theorem d_JP_checkIndex_17 : decode prog_30_method_11_code 17 = .ok (.ireturn, 1) := dd_at dd_JP_checkIndex 6 rfl
def ld_JS_coder : List (Nat × Instr × Nat) := [(0, .getstatic 38, 3), (3, .ifCond .eq (10), 3), (6, .aload_n 0, 1), (7, .getfield 15, 3), (10, .goto (4), 3), (13, .iconst 1, 1), (14, .ireturn, 1)]
theorem dd_JS_coder : (ld_JS_coder).all (dOK prog_23_method_152_code) = true := by decide +kernel
theorem d_JS_coder_0 : decode prog_23_method_152_code 0 = .ok (.getstatic 38, 3) := dd_at dd_JS_coder 0 rfl
theorem d_JS_coder_3 : decode prog_23_method_152_code 3 = .ok (.ifCond .eq (10), 3) := dd_at dd_JS_coder 1 rfl
theorem d_JS_coder_6 : decode prog_23_method_152_code 6 = .ok (.aload_n 0, 1) := dd_at dd_JS_coder 2 rfl
theorem d_JS_coder_7 : decode prog_23_method_152_code 7 = .ok (.getfield 15, 3) := dd_at dd_JS_coder 3 rfl
theorem d_JS_coder_10 : decode prog_23_method_152_code 10 = .ok (.goto (4), 3) := dd_at dd_JS_coder 4 rfl
theorem d_JS_coder_13 : decode prog_23_method_152_code 13 = .ok (.iconst 1, 1) := dd_at dd_JS_coder 5 rfl
theorem d_JS_coder_14 : decode prog_23_method_152_code 14 = .ok (.ireturn, 1) := dd_at dd_JS_coder 6 rfl
def ld_JS_length : List (Nat × Instr × Nat) := [(0, .aload_n 0, 1), (1, .getfield 9, 3), (4, .arraylength, 1), (5, .aload_n 0, 1), (6, .invokevirtual 335, 3), (9, .ishr, 1), (10, .ireturn, 1)]
theorem dd_JS_length : (ld_JS_length).all (dOK prog_23_method_54_code) = true := by decide +kernel
theorem d_JS_length_0 : decode prog_23_method_54_code 0 = .ok (.aload_n 0, 1) := dd_at dd_JS_length 0 rfl
theorem d_JS_length_1 : decode prog_23_method_54_code 1 = .ok (.getfield 9, 3) := dd_at dd_JS_length 1 rfl
theorem d_JS_length_4 : decode prog_23_method_54_code 4 = .ok (.arraylength, 1) := dd_at dd_JS_length 2 rfl
theorem d_JS_length_5 : decode prog_23_method_54_code 5 = .ok (.aload_n 0, 1) := dd_at dd_JS_length 3 rfl
theorem d_JS_length_6 : decode prog_23_method_54_code 6 = .ok (.invokevirtual 335, 3) := dd_at dd_JS_length 4 rfl
theorem d_JS_length_9 : decode prog_23_method_54_code 9 = .ok (.ishr, 1) := dd_at dd_JS_length 5 rfl
theorem d_JS_length_10 : decode prog_23_method_54_code 10 = .ok (.ireturn, 1) := dd_at dd_JS_length 6 rfl
def ld_JS_isLatin1 : List (Nat × Instr × Nat) := [(0, .getstatic 38, 3), (3, .ifCond .eq (14), 3), (6, .aload_n 0, 1), (7, .getfield 15, 3), (10, .ifCond .ne (7), 3), (13, .iconst 1, 1), (14, .goto (4), 3), (17, .iconst 0, 1), (18, .ireturn, 1)]
theorem dd_JS_isLatin1 : (ld_JS_isLatin1).all (dOK prog_23_method_154_code) = true := by decide +kernel
theorem d_JS_isLatin1_0 : decode prog_23_method_154_code 0 = .ok (.getstatic 38, 3) := dd_at dd_JS_isLatin1 0 rfl
theorem d_JS_isLatin1_3 : decode prog_23_method_154_code 3 = .ok (.ifCond .eq (14), 3) := dd_at dd_JS_isLatin1 1 rfl
theorem d_JS_isLatin1_6 : decode prog_23_method_154_code 6 = .ok (.aload_n 0, 1) := dd_at dd_JS_isLatin1 2 rfl
theorem d_JS_isLatin1_7 : decode prog_23_method_154_code 7 = .ok (.getfield 15, 3) := dd_at dd_JS_isLatin1 3 rfl
theorem d_JS_isLatin1_10 : decode prog_23_method_154_code 10 = .ok (.ifCond .ne (7), 3) := dd_at dd_JS_isLatin1 4 rfl
theorem d_JS_isLatin1_13 : decode prog_23_method_154_code 13 = .ok (.iconst 1, 1) := dd_at dd_JS_isLatin1 5 rfl
theorem d_JS_isLatin1_14 : decode prog_23_method_154_code 14 = .ok (.goto (4), 3) := dd_at dd_JS_isLatin1 6 rfl
theorem d_JS_isLatin1_17 : decode prog_23_method_154_code 17 = .ok (.iconst 0, 1) := dd_at dd_JS_isLatin1 7 rfl
theorem d_JS_isLatin1_18 : decode prog_23_method_154_code 18 = .ok (.ireturn, 1) := dd_at dd_JS_isLatin1 8 rfl
def ld_JS_checkIndex : List (Nat × Instr × Nat) := [(0, .iload_n 0, 1), (1, .iload_n 1, 1), (2, .getstatic 1053, 3), (5, .invokestatic 1059, 3), (8, .pop, 1), (9, .return_, 1)]
theorem dd_JS_checkIndex : (ld_JS_checkIndex).all (dOK prog_23_method_155_code) = true := by decide +kernel
theorem d_JS_checkIndex_0 : decode prog_23_method_155_code 0 = .ok (.iload_n 0, 1) := dd_at dd_JS_checkIndex 0 rfl
theorem d_JS_checkIndex_1 : decode prog_23_method_155_code 1 = .ok (.iload_n 1, 1) := dd_at dd_JS_checkIndex 1 rfl
theorem d_JS_checkIndex_2 : decode prog_23_method_155_code 2 = .ok (.getstatic 1053, 3) := dd_at dd_JS_checkIndex 2 rfl
theorem d_JS_checkIndex_5 : decode prog_23_method_155_code 5 = .ok (.invokestatic 1059, 3) := dd_at dd_JS_checkIndex 3 rfl
theorem d_JS_checkIndex_8 : decode prog_23_method_155_code 8 = .ok (.pop, 1) := dd_at dd_JS_checkIndex 4 rfl
theorem d_JS_checkIndex_9 : decode prog_23_method_155_code 9 = .ok (.return_, 1) := dd_at dd_JS_checkIndex 5 rfl
def ld_JL_charAt : List (Nat × Instr × Nat) := [(0, .iload_n 1, 1), (1, .aload_n 0, 1), (2, .arraylength, 1), (3, .invokestatic 9, 3), (6, .aload_n 0, 1), (7, .iload_n 1, 1), (8, .baload, 1), (9, .sipush (255), 3), (12, .iand, 1), (13, .i2c, 1), (14, .ireturn, 1)]
theorem dd_JL_charAt : (ld_JL_charAt).all (dOK prog_24_method_2_code) = true := by decide +kernel
theorem d_JL_charAt_0 : decode prog_24_method_2_code 0 = .ok (.iload_n 1, 1) := dd_at dd_JL_charAt 0 rfl
theorem d_JL_charAt_1 : decode prog_24_method_2_code 1 = .ok (.aload_n 0, 1) := dd_at dd_JL_charAt 1 rfl
theorem d_JL_charAt_2 : decode prog_24_method_2_code 2 = .ok (.arraylength, 1) := dd_at dd_JL_charAt 2 rfl
theorem d_JL_charAt_3 : decode prog_24_method_2_code 3 = .ok (.invokestatic 9, 3) := dd_at dd_JL_charAt 3 rfl
theorem d_JL_charAt_6 : decode prog_24_method_2_code 6 = .ok (.aload_n 0, 1) := dd_at dd_JL_charAt 4 rfl
theorem d_JL_charAt_7 : decode prog_24_method_2_code 7 = .ok (.iload_n 1, 1) := dd_at dd_JL_charAt 5 rfl
theorem d_JL_charAt_8 : decode prog_24_method_2_code 8 = .ok (.baload, 1) := dd_at dd_JL_charAt 6 rfl
theorem d_JL_charAt_9 : decode prog_24_method_2_code 9 = .ok (.sipush (255), 3) := dd_at dd_JL_charAt 7 rfl
theorem d_JL_charAt_12 : decode prog_24_method_2_code 12 = .ok (.iand, 1) := dd_at dd_JL_charAt 8 rfl
theorem d_JL_charAt_13 : decode prog_24_method_2_code 13 = .ok (.i2c, 1) := dd_at dd_JL_charAt 9 rfl
theorem d_JL_charAt_14 : decode prog_24_method_2_code 14 = .ok (.ireturn, 1) := dd_at dd_JL_charAt 10 rfl
def ld_Li_clear : List (Nat × Instr × Nat) := [(0, .aload_n 0, 1), (1, .iconst 0, 1), (2, .putfield 42, 3), (5, .aload_n 0, 1), (6, .iconst 0, 1), (7, .putfield 46, 3), (10, .aload_n 0, 1), (11, .getstatic 9, 3), (14, .putfield 15, 3), (17, .aload_n 0, 1), (18, .iconst 0, 1), (19, .putfield 50, 3), (22, .aload_n 0, 1), (23, .iconst 0, 1), (24, .putfield 53, 3), (27, .aload_n 0, 1), (28, .iconst 0, 1), (29, .putfield 56, 3), (32, .aload_n 0, 1), (33, .iconst 0, 1), (34, .putfield 59, 3), (37, .return_, 1)]
theorem dd_Li_clear : (ld_Li_clear).all (dOK prog_6_method_2_code) = true := by decide +kernel
theorem d_Li_clear_0 : decode prog_6_method_2_code 0 = .ok (.aload_n 0, 1) := dd_at dd_Li_clear 0 rfl
theorem d_Li_clear_1 : decode prog_6_method_2_code 1 = .ok (.iconst 0, 1) := dd_at dd_Li_clear 1 rfl
theorem d_Li_clear_2 : decode prog_6_method_2_code 2 = .ok (.putfield 42, 3) := dd_at dd_Li_clear 2 rfl
theorem d_Li_clear_5 : decode prog_6_method_2_code 5 = .ok (.aload_n 0, 1) := dd_at dd_Li_clear 3 rfl
theorem d_Li_clear_6 : decode prog_6_method_2_code 6 = .ok (.iconst 0, 1) := dd_at dd_Li_clear 4 rfl
theorem d_Li_clear_7 : decode prog_6_method_2_code 7 = .ok (.putfield 46, 3) := dd_at dd_Li_clear 5 rfl
theorem d_Li_clear_10 : decode prog_6_method_2_code 10 = .ok (.aload_n 0, 1) := dd_at dd_Li_clear 6 rfl
theorem d_Li_clear_11 : decode prog_6_method_2_code 11 = .ok (.getstatic 9, 3) := dd_at dd_Li_clear 7 rfl
theorem d_Li_clear_14 : decode prog_6_method_2_code 14 = .ok (.putfield 15, 3) := dd_at dd_Li_clear 8 rfl
theorem d_Li_clear_17 : decode prog_6_method_2_code 17 = .ok (.aload_n 0, 1) := dd_at dd_Li_clear 9 rfl
theorem d_Li_clear_18 : decode prog_6_method_2_code 18 = .ok (.iconst 0, 1) := dd_at dd_Li_clear 10 rfl
theorem d_Li_clear_19 : decode prog_6_method_2_code 19 = .ok (.putfield 50, 3) := dd_at dd_Li_clear 11 rfl
theorem d_Li_clear_22 : decode prog_6_method_2_code 22 = .ok (.aload_n 0, 1) := dd_at dd_Li_clear 12 rfl
theorem d_Li_clear_23 : decode prog_6_method_2_code 23 = .ok (.iconst 0, 1) := dd_at dd_Li_clear 13 rfl
theorem d_Li_clear_24 : decode prog_6_method_2_code 24 = .ok (.putfield 53, 3) := dd_at dd_Li_clear 14 rfl
theorem d_Li_clear_27 : decode prog_6_method_2_code 27 = .ok (.aload_n 0, 1) := dd_at dd_Li_clear 15 rfl
theorem d_Li_clear_28 : decode prog_6_method_2_code 28 = .ok (.iconst 0, 1) := dd_at dd_Li_clear 16 rfl
theorem d_Li_clear_29 : decode prog_6_method_2_code 29 = .ok (.putfield 56, 3) := dd_at dd_Li_clear 17 rfl
theorem d_Li_clear_32 : decode prog_6_method_2_code 32 = .ok (.aload_n 0, 1) := dd_at dd_Li_clear 18 rfl
theorem d_Li_clear_33 : decode prog_6_method_2_code 33 = .ok (.iconst 0, 1) := dd_at dd_Li_clear 19 rfl
theorem d_Li_clear_34 : decode prog_6_method_2_code 34 = .ok (.putfield 59, 3) := dd_at dd_Li_clear 20 rfl
theorem d_Li_clear_37 : decode prog_6_method_2_code 37 = .ok (.return_, 1) := dd_at dd_Li_clear 21 rfl
def ld_Li_addNumber : List (Nat × Instr × Nat) := [(0, .aload_n 0, 1), (1, .getfield 53, 3), (4, .aload_n 0, 1), (5, .getfield 29, 3), (8, .arraylength, 1), (9, .if_icmp .ge (23), 3), (12, .aload_n 0, 1), (13, .getfield 29, 3), (16, .aload_n 0, 1), (17, .getfield 53, 3), (20, .iload_n 1, 1), (21, .iastore, 1), (22, .aload_n 0, 1), (23, .dup, 1), (24, .getfield 53, 3), (27, .iconst 1, 1), (28, .iadd, 1), (29, .putfield 53, 3), (32, .return_, 1)]
theorem dd_Li_addNumber : (ld_Li_addNumber).all (dOK prog_6_method_3_code) = true := by decide +kernel
theorem d_Li_addNumber_0 : decode prog_6_method_3_code 0 = .ok (.aload_n 0, 1) := dd_at dd_Li_addNumber 0 rfl
theorem d_Li_addNumber_1 : decode prog_6_method_3_code 1 = .ok (.getfield 53, 3) := dd_at dd_Li_addNumber 1 rfl
theorem d_Li_addNumber_4 : decode prog_6_method_3_code 4 = .ok (.aload_n 0, 1) := dd_at dd_Li_addNumber 2 rfl
theorem d_Li_addNumber_5 : decode prog_6_method_3_code 5 = .ok (.getfield 29, 3) := dd_at dd_Li_addNumber 3 rfl
theorem d_Li_addNumber_8 : decode prog_6_method_3_code 8 = .ok (.arraylength, 1) := dd_at dd_Li_addNumber 4 rfl
theorem d_Li_addNumber_9 : decode prog_6_method_3_code 9 = .ok (.if_icmp .ge (23), 3) := dd_at dd_Li_addNumber 5 rfl
theorem d_Li_addNumber_12 : decode prog_6_method_3_code 12 = .ok (.aload_n 0, 1) := dd_at dd_Li_addNumber 6 rfl
theorem d_Li_addNumber_13 : decode prog_6_method_3_code 13 = .ok (.getfield 29, 3) := dd_at dd_Li_addNumber 7 rfl
theorem d_Li_addNumber_16 : decode prog_6_method_3_code 16 = .ok (.aload_n 0, 1) := dd_at dd_Li_addNumber 8 rfl
theorem d_Li_addNumber_17 : decode prog_6_method_3_code 17 = .ok (.getfield 53, 3) := dd_at dd_Li_addNumber 9 rfl
theorem d_Li_addNumber_20 : decode prog_6_method_3_code 20 = .ok (.iload_n 1, 1) := dd_at dd_Li_addNumber 10 rfl
theorem d_Li_addNumber_21 : decode prog_6_method_3_code 21 = .ok (.iastore, 1) := dd_at dd_Li_addNumber 11 rfl
theorem d_Li_addNumber_22 : decode prog_6_method_3_code 22 = .ok (.aload_n 0, 1) := dd_at dd_Li_addNumber 12 rfl
theorem d_Li_addNumber_23 : decode prog_6_method_3_code 23 = .ok (.dup, 1) := dd_at dd_Li_addNumber 13 rfl
theorem d_Li_addNumber_24 : decode prog_6_method_3_code 24 = .ok (.getfield 53, 3) := dd_at dd_Li_addNumber 14 rfl
theorem d_Li_addNumber_27 : decode prog_6_method_3_code 27 = .ok (.iconst 1, 1) := dd_at dd_Li_addNumber 15 rfl
theorem d_Li_addNumber_28 : decode prog_6_method_3_code 28 = .ok (.iadd, 1) := dd_at dd_Li_addNumber 16 rfl
theorem d_Li_addNumber_29 : decode prog_6_method_3_code 29 = .ok (.putfield 53, 3) := dd_at dd_Li_addNumber 17 rfl
theorem d_Li_addNumber_32 : decode prog_6_method_3_code 32 = .ok (.return_, 1) := dd_at dd_Li_addNumber 18 rfl
def ld_Li_numberAt : List (Nat × Instr × Nat) := [(0, .iload_n 1, 1), (1, .ifCond .lt (20), 3), (4, .iload_n 1, 1), (5, .aload_n 0, 1), (6, .getfield 53, 3), (9, .if_icmp .ge (12), 3), (12, .aload_n 0, 1), (13, .getfield 29, 3), (16, .iload_n 1, 1), (17, .iaload, 1), (18, .goto (4), 3), (21, .iconst 0, 1), (22, .ireturn, 1)]
theorem dd_Li_numberAt : (ld_Li_numberAt).all (dOK prog_6_method_4_code) = true := by decide +kernel
theorem d_Li_numberAt_0 : decode prog_6_method_4_code 0 = .ok (.iload_n 1, 1) := dd_at dd_Li_numberAt 0 rfl
theorem d_Li_numberAt_1 : decode prog_6_method_4_code 1 = .ok (.ifCond .lt (20), 3) := dd_at dd_Li_numberAt 1 rfl
theorem d_Li_numberAt_4 : decode prog_6_method_4_code 4 = .ok (.iload_n 1, 1) := dd_at dd_Li_numberAt 2 rfl
theorem d_Li_numberAt_5 : decode prog_6_method_4_code 5 = .ok (.aload_n 0, 1) := dd_at dd_Li_numberAt 3 rfl
theorem d_Li_numberAt_6 : decode prog_6_method_4_code 6 = .ok (.getfield 53, 3) := dd_at dd_Li_numberAt 4 rfl
theorem d_Li_numberAt_9 : decode prog_6_method_4_code 9 = .ok (.if_icmp .ge (12), 3) := dd_at dd_Li_numberAt 5 rfl
theorem d_Li_numberAt_12 : decode prog_6_method_4_code 12 = .ok (.aload_n 0, 1) := dd_at dd_Li_numberAt 6 rfl
theorem d_Li_numberAt_13 : decode prog_6_method_4_code 13 = .ok (.getfield 29, 3) := dd_at dd_Li_numberAt 7 rfl
theorem d_Li_numberAt_16 : decode prog_6_method_4_code 16 = .ok (.iload_n 1, 1) := dd_at dd_Li_numberAt 8 rfl
theorem d_Li_numberAt_17 : decode prog_6_method_4_code 17 = .ok (.iaload, 1) := dd_at dd_Li_numberAt 9 rfl
theorem d_Li_numberAt_18 : decode prog_6_method_4_code 18 = .ok (.goto (4), 3) := dd_at dd_Li_numberAt 10 rfl
theorem d_Li_numberAt_21 : decode prog_6_method_4_code 21 = .ok (.iconst 0, 1) := dd_at dd_Li_numberAt 11 rfl
theorem d_Li_numberAt_22 : decode prog_6_method_4_code 22 = .ok (.ireturn, 1) := dd_at dd_Li_numberAt 12 rfl
def ld_Li_addOperation : List (Nat × Instr × Nat) := [(0, .aload_n 0, 1), (1, .getfield 56, 3), (4, .aload_n 0, 1), (5, .getfield 33, 3), (8, .arraylength, 1), (9, .if_icmp .ge (33), 3), (12, .aload_n 0, 1), (13, .getfield 33, 3), (16, .aload_n 0, 1), (17, .getfield 56, 3), (20, .iload_n 1, 1), (21, .iastore, 1), (22, .aload_n 0, 1), (23, .getfield 36, 3), (26, .aload_n 0, 1), (27, .getfield 56, 3), (30, .iload_n 2, 1), (31, .iastore, 1), (32, .aload_n 0, 1), (33, .dup, 1), (34, .getfield 56, 3), (37, .iconst 1, 1), (38, .iadd, 1), (39, .putfield 56, 3), (42, .return_, 1)]
theorem dd_Li_addOperation : (ld_Li_addOperation).all (dOK prog_6_method_5_code) = true := by decide +kernel
theorem d_Li_addOperation_0 : decode prog_6_method_5_code 0 = .ok (.aload_n 0, 1) := dd_at dd_Li_addOperation 0 rfl
theorem d_Li_addOperation_1 : decode prog_6_method_5_code 1 = .ok (.getfield 56, 3) := dd_at dd_Li_addOperation 1 rfl
theorem d_Li_addOperation_4 : decode prog_6_method_5_code 4 = .ok (.aload_n 0, 1) := dd_at dd_Li_addOperation 2 rfl
theorem d_Li_addOperation_5 : decode prog_6_method_5_code 5 = .ok (.getfield 33, 3) := dd_at dd_Li_addOperation 3 rfl
theorem d_Li_addOperation_8 : decode prog_6_method_5_code 8 = .ok (.arraylength, 1) := dd_at dd_Li_addOperation 4 rfl
theorem d_Li_addOperation_9 : decode prog_6_method_5_code 9 = .ok (.if_icmp .ge (33), 3) := dd_at dd_Li_addOperation 5 rfl
theorem d_Li_addOperation_12 : decode prog_6_method_5_code 12 = .ok (.aload_n 0, 1) := dd_at dd_Li_addOperation 6 rfl
theorem d_Li_addOperation_13 : decode prog_6_method_5_code 13 = .ok (.getfield 33, 3) := dd_at dd_Li_addOperation 7 rfl
theorem d_Li_addOperation_16 : decode prog_6_method_5_code 16 = .ok (.aload_n 0, 1) := dd_at dd_Li_addOperation 8 rfl
theorem d_Li_addOperation_17 : decode prog_6_method_5_code 17 = .ok (.getfield 56, 3) := dd_at dd_Li_addOperation 9 rfl
theorem d_Li_addOperation_20 : decode prog_6_method_5_code 20 = .ok (.iload_n 1, 1) := dd_at dd_Li_addOperation 10 rfl
theorem d_Li_addOperation_21 : decode prog_6_method_5_code 21 = .ok (.iastore, 1) := dd_at dd_Li_addOperation 11 rfl
theorem d_Li_addOperation_22 : decode prog_6_method_5_code 22 = .ok (.aload_n 0, 1) := dd_at dd_Li_addOperation 12 rfl
theorem d_Li_addOperation_23 : decode prog_6_method_5_code 23 = .ok (.getfield 36, 3) := dd_at dd_Li_addOperation 13 rfl
theorem d_Li_addOperation_26 : decode prog_6_method_5_code 26 = .ok (.aload_n 0, 1) := dd_at dd_Li_addOperation 14 rfl
theorem d_Li_addOperation_27 : decode prog_6_method_5_code 27 = .ok (.getfield 56, 3) := dd_at dd_Li_addOperation 15 rfl
theorem d_Li_addOperation_30 : decode prog_6_method_5_code 30 = .ok (.iload_n 2, 1) := dd_at dd_Li_addOperation 16 rfl
theorem d_Li_addOperation_31 : decode prog_6_method_5_code 31 = .ok (.iastore, 1) := dd_at dd_Li_addOperation 17 rfl
theorem d_Li_addOperation_32 : decode prog_6_method_5_code 32 = .ok (.aload_n 0, 1) := dd_at dd_Li_addOperation 18 rfl
theorem d_Li_addOperation_33 : decode prog_6_method_5_code 33 = .ok (.dup, 1) := dd_at dd_Li_addOperation 19 rfl
theorem d_Li_addOperation_34 : decode prog_6_method_5_code 34 = .ok (.getfield 56, 3) := dd_at dd_Li_addOperation 20 rfl
theorem d_Li_addOperation_37 : decode prog_6_method_5_code 37 = .ok (.iconst 1, 1) := dd_at dd_Li_addOperation 21 rfl
theorem d_Li_addOperation_38 : decode prog_6_method_5_code 38 = .ok (.iadd, 1) := dd_at dd_Li_addOperation 22 rfl
theorem d_Li_addOperation_39 : decode prog_6_method_5_code 39 = .ok (.putfield 56, 3) := dd_at dd_Li_addOperation 23 rfl
theorem d_Li_addOperation_42 : decode prog_6_method_5_code 42 = .ok (.return_, 1) := dd_at dd_Li_addOperation 24 rfl
def ld_Li_endExpression : List (Nat × Instr × Nat) := [(0, .aload_n 0, 1), (1, .getfield 59, 3), (4, .aload_n 0, 1), (5, .getfield 39, 3), (8, .arraylength, 1), (9, .if_icmp .ge (26), 3), (12, .aload_n 0, 1), (13, .getfield 39, 3), (16, .aload_n 0, 1), (17, .getfield 59, 3), (20, .aload_n 0, 1), (21, .getfield 56, 3), (24, .iastore, 1), (25, .aload_n 0, 1), (26, .dup, 1), (27, .getfield 59, 3), (30, .iconst 1, 1), (31, .iadd, 1), (32, .putfield 59, 3), (35, .return_, 1)]
theorem dd_Li_endExpression : (ld_Li_endExpression).all (dOK prog_6_method_6_code) = true := by decide +kernel
theorem d_Li_endExpression_0 : decode prog_6_method_6_code 0 = .ok (.aload_n 0, 1) := dd_at dd_Li_endExpression 0 rfl
theorem d_Li_endExpression_1 : decode prog_6_method_6_code 1 = .ok (.getfield 59, 3) := dd_at dd_Li_endExpression 1 rfl
theorem d_Li_endExpression_4 : decode prog_6_method_6_code 4 = .ok (.aload_n 0, 1) := dd_at dd_Li_endExpression 2 rfl
theorem d_Li_endExpression_5 : decode prog_6_method_6_code 5 = .ok (.getfield 39, 3) := dd_at dd_Li_endExpression 3 rfl
theorem d_Li_endExpression_8 : decode prog_6_method_6_code 8 = .ok (.arraylength, 1) := dd_at dd_Li_endExpression 4 rfl
theorem d_Li_endExpression_9 : decode prog_6_method_6_code 9 = .ok (.if_icmp .ge (26), 3) := dd_at dd_Li_endExpression 5 rfl
theorem d_Li_endExpression_12 : decode prog_6_method_6_code 12 = .ok (.aload_n 0, 1) := dd_at dd_Li_endExpression 6 rfl
theorem d_Li_endExpression_13 : decode prog_6_method_6_code 13 = .ok (.getfield 39, 3) := dd_at dd_Li_endExpression 7 rfl
theorem d_Li_endExpression_16 : decode prog_6_method_6_code 16 = .ok (.aload_n 0, 1) := dd_at dd_Li_endExpression 8 rfl
theorem d_Li_endExpression_17 : decode prog_6_method_6_code 17 = .ok (.getfield 59, 3) := dd_at dd_Li_endExpression 9 rfl
theorem d_Li_endExpression_20 : decode prog_6_method_6_code 20 = .ok (.aload_n 0, 1) := dd_at dd_Li_endExpression 10 rfl
theorem d_Li_endExpression_21 : decode prog_6_method_6_code 21 = .ok (.getfield 56, 3) := dd_at dd_Li_endExpression 11 rfl
theorem d_Li_endExpression_24 : decode prog_6_method_6_code 24 = .ok (.iastore, 1) := dd_at dd_Li_endExpression 12 rfl
theorem d_Li_endExpression_25 : decode prog_6_method_6_code 25 = .ok (.aload_n 0, 1) := dd_at dd_Li_endExpression 13 rfl
theorem d_Li_endExpression_26 : decode prog_6_method_6_code 26 = .ok (.dup, 1) := dd_at dd_Li_endExpression 14 rfl
theorem d_Li_endExpression_27 : decode prog_6_method_6_code 27 = .ok (.getfield 59, 3) := dd_at dd_Li_endExpression 15 rfl
theorem d_Li_endExpression_30 : decode prog_6_method_6_code 30 = .ok (.iconst 1, 1) := dd_at dd_Li_endExpression 16 rfl
theorem d_Li_endExpression_31 : decode prog_6_method_6_code 31 = .ok (.iadd, 1) := dd_at dd_Li_endExpression 17 rfl
theorem d_Li_endExpression_32 : decode prog_6_method_6_code 32 = .ok (.putfield 59, 3) := dd_at dd_Li_endExpression 18 rfl
theorem d_Li_endExpression_35 : decode prog_6_method_6_code 35 = .ok (.return_, 1) := dd_at dd_Li_endExpression 19 rfl
def ld_Li_endOf : List (Nat × Instr × Nat) := [(0, .iload_n 1, 1), (1, .ifCond .lt (20), 3), (4, .iload_n 1, 1), (5, .aload_n 0, 1), (6, .getfield 59, 3), (9, .if_icmp .ge (12), 3), (12, .aload_n 0, 1), (13, .getfield 39, 3), (16, .iload_n 1, 1), (17, .iaload, 1), (18, .goto (4), 3), (21, .iconst 0, 1), (22, .ireturn, 1)]
theorem dd_Li_endOf : (ld_Li_endOf).all (dOK prog_6_method_8_code) = true := by decide +kernel
theorem d_Li_endOf_0 : decode prog_6_method_8_code 0 = .ok (.iload_n 1, 1) := dd_at dd_Li_endOf 0 rfl
theorem d_Li_endOf_1 : decode prog_6_method_8_code 1 = .ok (.ifCond .lt (20), 3) := dd_at dd_Li_endOf 1 rfl
theorem d_Li_endOf_4 : decode prog_6_method_8_code 4 = .ok (.iload_n 1, 1) := dd_at dd_Li_endOf 2 rfl
theorem d_Li_endOf_5 : decode prog_6_method_8_code 5 = .ok (.aload_n 0, 1) := dd_at dd_Li_endOf 3 rfl
theorem d_Li_endOf_6 : decode prog_6_method_8_code 6 = .ok (.getfield 59, 3) := dd_at dd_Li_endOf 4 rfl
theorem d_Li_endOf_9 : decode prog_6_method_8_code 9 = .ok (.if_icmp .ge (12), 3) := dd_at dd_Li_endOf 5 rfl
theorem d_Li_endOf_12 : decode prog_6_method_8_code 12 = .ok (.aload_n 0, 1) := dd_at dd_Li_endOf 6 rfl
theorem d_Li_endOf_13 : decode prog_6_method_8_code 13 = .ok (.getfield 39, 3) := dd_at dd_Li_endOf 7 rfl
theorem d_Li_endOf_16 : decode prog_6_method_8_code 16 = .ok (.iload_n 1, 1) := dd_at dd_Li_endOf 8 rfl
theorem d_Li_endOf_17 : decode prog_6_method_8_code 17 = .ok (.iaload, 1) := dd_at dd_Li_endOf 9 rfl
theorem d_Li_endOf_18 : decode prog_6_method_8_code 18 = .ok (.goto (4), 3) := dd_at dd_Li_endOf 10 rfl
theorem d_Li_endOf_21 : decode prog_6_method_8_code 21 = .ok (.iconst 0, 1) := dd_at dd_Li_endOf 11 rfl
theorem d_Li_endOf_22 : decode prog_6_method_8_code 22 = .ok (.ireturn, 1) := dd_at dd_Li_endOf 12 rfl
def ld_Mx_shape : List (Nat × Instr × Nat) := [(0, .aload_n 0, 1), (1, .iload_n 1, 1), (2, .putfield 15, 3), (5, .aload_n 0, 1), (6, .iload_n 2, 1), (7, .putfield 19, 3), (10, .iconst 0, 1), (11, .istore_n 3, 1), (12, .iload_n 3, 1), (13, .aload_n 0, 1), (14, .getfield 9, 3), (17, .arraylength, 1), (18, .if_icmp .ge (16), 3), (21, .aload_n 0, 1), (22, .getfield 9, 3), (25, .iload_n 3, 1), (26, .dconst 0, 1), (27, .dastore, 1), (28, .iinc 3 (1), 3), (31, .goto (-19), 3), (34, .return_, 1)]
theorem dd_Mx_shape : (ld_Mx_shape).all (dOK prog_9_method_2_code) = true := by decide +kernel
theorem d_Mx_shape_0 : decode prog_9_method_2_code 0 = .ok (.aload_n 0, 1) := dd_at dd_Mx_shape 0 rfl
theorem d_Mx_shape_1 : decode prog_9_method_2_code 1 = .ok (.iload_n 1, 1) := dd_at dd_Mx_shape 1 rfl
theorem d_Mx_shape_2 : decode prog_9_method_2_code 2 = .ok (.putfield 15, 3) := dd_at dd_Mx_shape 2 rfl
theorem d_Mx_shape_5 : decode prog_9_method_2_code 5 = .ok (.aload_n 0, 1) := dd_at dd_Mx_shape 3 rfl
theorem d_Mx_shape_6 : decode prog_9_method_2_code 6 = .ok (.iload_n 2, 1) := dd_at dd_Mx_shape 4 rfl
theorem d_Mx_shape_7 : decode prog_9_method_2_code 7 = .ok (.putfield 19, 3) := dd_at dd_Mx_shape 5 rfl
theorem d_Mx_shape_10 : decode prog_9_method_2_code 10 = .ok (.iconst 0, 1) := dd_at dd_Mx_shape 6 rfl
theorem d_Mx_shape_11 : decode prog_9_method_2_code 11 = .ok (.istore_n 3, 1) := dd_at dd_Mx_shape 7 rfl
theorem d_Mx_shape_12 : decode prog_9_method_2_code 12 = .ok (.iload_n 3, 1) := dd_at dd_Mx_shape 8 rfl
theorem d_Mx_shape_13 : decode prog_9_method_2_code 13 = .ok (.aload_n 0, 1) := dd_at dd_Mx_shape 9 rfl
theorem d_Mx_shape_14 : decode prog_9_method_2_code 14 = .ok (.getfield 9, 3) := dd_at dd_Mx_shape 10 rfl
theorem d_Mx_shape_17 : decode prog_9_method_2_code 17 = .ok (.arraylength, 1) := dd_at dd_Mx_shape 11 rfl
theorem d_Mx_shape_18 : decode prog_9_method_2_code 18 = .ok (.if_icmp .ge (16), 3) := dd_at dd_Mx_shape 12 rfl
theorem d_Mx_shape_21 : decode prog_9_method_2_code 21 = .ok (.aload_n 0, 1) := dd_at dd_Mx_shape 13 rfl
theorem d_Mx_shape_22 : decode prog_9_method_2_code 22 = .ok (.getfield 9, 3) := dd_at dd_Mx_shape 14 rfl
theorem d_Mx_shape_25 : decode prog_9_method_2_code 25 = .ok (.iload_n 3, 1) := dd_at dd_Mx_shape 15 rfl
theorem d_Mx_shape_26 : decode prog_9_method_2_code 26 = .ok (.dconst 0, 1) := dd_at dd_Mx_shape 16 rfl
theorem d_Mx_shape_27 : decode prog_9_method_2_code 27 = .ok (.dastore, 1) := dd_at dd_Mx_shape 17 rfl
theorem d_Mx_shape_28 : decode prog_9_method_2_code 28 = .ok (.iinc 3 (1), 3) := dd_at dd_Mx_shape 18 rfl
theorem d_Mx_shape_31 : decode prog_9_method_2_code 31 = .ok (.goto (-19), 3) := dd_at dd_Mx_shape 19 rfl
theorem d_Mx_shape_34 : decode prog_9_method_2_code 34 = .ok (.return_, 1) := dd_at dd_Mx_shape 20 rfl
def ld_Mx_placeOf : List (Nat × Instr × Nat) := [(0, .lload_n 1, 1), (1, .lconst 1, 1), (2, .lcmp, 1), (3, .ifCond .lt (29), 3), (6, .lload_n 1, 1), (7, .aload_n 0, 1), (8, .getfield 15, 3), (11, .i2l, 1), (12, .lcmp, 1), (13, .ifCond .gt (19), 3), (16, .lload_n 3, 1), (17, .lconst 1, 1), (18, .lcmp, 1), (19, .ifCond .lt (13), 3), (22, .lload_n 3, 1), (23, .aload_n 0, 1), (24, .getfield 19, 3), (27, .i2l, 1), (28, .lcmp, 1), (29, .ifCond .le (5), 3), (32, .iconst (-1), 1), (33, .ireturn, 1), (34, .lload_n 1, 1), (35, .lconst 1, 1), (36, .lsub, 1), (37, .l2i, 1), (38, .bipush (6), 2), (40, .imul, 1), (41, .lload_n 3, 1), (42, .lconst 1, 1), (43, .lsub, 1), (44, .l2i, 1), (45, .iadd, 1), (46, .ireturn, 1)]
theorem dd_Mx_placeOf : (ld_Mx_placeOf).all (dOK prog_9_method_3_code) = true := by decide +kernel
theorem d_Mx_placeOf_0 : decode prog_9_method_3_code 0 = .ok (.lload_n 1, 1) := dd_at dd_Mx_placeOf 0 rfl
theorem d_Mx_placeOf_1 : decode prog_9_method_3_code 1 = .ok (.lconst 1, 1) := dd_at dd_Mx_placeOf 1 rfl
theorem d_Mx_placeOf_2 : decode prog_9_method_3_code 2 = .ok (.lcmp, 1) := dd_at dd_Mx_placeOf 2 rfl
theorem d_Mx_placeOf_3 : decode prog_9_method_3_code 3 = .ok (.ifCond .lt (29), 3) := dd_at dd_Mx_placeOf 3 rfl
theorem d_Mx_placeOf_6 : decode prog_9_method_3_code 6 = .ok (.lload_n 1, 1) := dd_at dd_Mx_placeOf 4 rfl
theorem d_Mx_placeOf_7 : decode prog_9_method_3_code 7 = .ok (.aload_n 0, 1) := dd_at dd_Mx_placeOf 5 rfl
theorem d_Mx_placeOf_8 : decode prog_9_method_3_code 8 = .ok (.getfield 15, 3) := dd_at dd_Mx_placeOf 6 rfl
theorem d_Mx_placeOf_11 : decode prog_9_method_3_code 11 = .ok (.i2l, 1) := dd_at dd_Mx_placeOf 7 rfl
theorem d_Mx_placeOf_12 : decode prog_9_method_3_code 12 = .ok (.lcmp, 1) := dd_at dd_Mx_placeOf 8 rfl
theorem d_Mx_placeOf_13 : decode prog_9_method_3_code 13 = .ok (.ifCond .gt (19), 3) := dd_at dd_Mx_placeOf 9 rfl
theorem d_Mx_placeOf_16 : decode prog_9_method_3_code 16 = .ok (.lload_n 3, 1) := dd_at dd_Mx_placeOf 10 rfl
theorem d_Mx_placeOf_17 : decode prog_9_method_3_code 17 = .ok (.lconst 1, 1) := dd_at dd_Mx_placeOf 11 rfl
theorem d_Mx_placeOf_18 : decode prog_9_method_3_code 18 = .ok (.lcmp, 1) := dd_at dd_Mx_placeOf 12 rfl
theorem d_Mx_placeOf_19 : decode prog_9_method_3_code 19 = .ok (.ifCond .lt (13), 3) := dd_at dd_Mx_placeOf 13 rfl
theorem d_Mx_placeOf_22 : decode prog_9_method_3_code 22 = .ok (.lload_n 3, 1) := dd_at dd_Mx_placeOf 14 rfl
theorem d_Mx_placeOf_23 : decode prog_9_method_3_code 23 = .ok (.aload_n 0, 1) := dd_at dd_Mx_placeOf 15 rfl
theorem d_Mx_placeOf_24 : decode prog_9_method_3_code 24 = .ok (.getfield 19, 3) := dd_at dd_Mx_placeOf 16 rfl
theorem d_Mx_placeOf_27 : decode prog_9_method_3_code 27 = .ok (.i2l, 1) := dd_at dd_Mx_placeOf 17 rfl
theorem d_Mx_placeOf_28 : decode prog_9_method_3_code 28 = .ok (.lcmp, 1) := dd_at dd_Mx_placeOf 18 rfl
theorem d_Mx_placeOf_29 : decode prog_9_method_3_code 29 = .ok (.ifCond .le (5), 3) := dd_at dd_Mx_placeOf 19 rfl
theorem d_Mx_placeOf_32 : decode prog_9_method_3_code 32 = .ok (.iconst (-1), 1) := dd_at dd_Mx_placeOf 20 rfl
theorem d_Mx_placeOf_33 : decode prog_9_method_3_code 33 = .ok (.ireturn, 1) := dd_at dd_Mx_placeOf 21 rfl
theorem d_Mx_placeOf_34 : decode prog_9_method_3_code 34 = .ok (.lload_n 1, 1) := dd_at dd_Mx_placeOf 22 rfl
theorem d_Mx_placeOf_35 : decode prog_9_method_3_code 35 = .ok (.lconst 1, 1) := dd_at dd_Mx_placeOf 23 rfl
theorem d_Mx_placeOf_36 : decode prog_9_method_3_code 36 = .ok (.lsub, 1) := dd_at dd_Mx_placeOf 24 rfl
theorem d_Mx_placeOf_37 : decode prog_9_method_3_code 37 = .ok (.l2i, 1) := dd_at dd_Mx_placeOf 25 rfl
theorem d_Mx_placeOf_38 : decode prog_9_method_3_code 38 = .ok (.bipush (6), 2) := dd_at dd_Mx_placeOf 26 rfl
theorem d_Mx_placeOf_40 : decode prog_9_method_3_code 40 = .ok (.imul, 1) := dd_at dd_Mx_placeOf 27 rfl
theorem d_Mx_placeOf_41 : decode prog_9_method_3_code 41 = .ok (.lload_n 3, 1) := dd_at dd_Mx_placeOf 28 rfl
theorem d_Mx_placeOf_42 : decode prog_9_method_3_code 42 = .ok (.lconst 1, 1) := dd_at dd_Mx_placeOf 29 rfl
theorem d_Mx_placeOf_43 : decode prog_9_method_3_code 43 = .ok (.lsub, 1) := dd_at dd_Mx_placeOf 30 rfl
theorem d_Mx_placeOf_44 : decode prog_9_method_3_code 44 = .ok (.l2i, 1) := dd_at dd_Mx_placeOf 31 rfl
theorem d_Mx_placeOf_45 : decode prog_9_method_3_code 45 = .ok (.iadd, 1) := dd_at dd_Mx_placeOf 32 rfl
theorem d_Mx_placeOf_46 : decode prog_9_method_3_code 46 = .ok (.ireturn, 1) := dd_at dd_Mx_placeOf 33 rfl
def ld_Mx_get : List (Nat × Instr × Nat) := [(0, .iload_n 1, 1), (1, .ifCond .lt (21), 3), (4, .iload_n 1, 1), (5, .aload_n 0, 1), (6, .getfield 9, 3), (9, .arraylength, 1), (10, .if_icmp .ge (12), 3), (13, .aload_n 0, 1), (14, .getfield 9, 3), (17, .iload_n 1, 1), (18, .daload, 1), (19, .goto (4), 3), (22, .dconst 0, 1), (23, .dreturn, 1)]
theorem dd_Mx_get : (ld_Mx_get).all (dOK prog_9_method_4_code) = true := by decide +kernel
theorem d_Mx_get_0 : decode prog_9_method_4_code 0 = .ok (.iload_n 1, 1) := dd_at dd_Mx_get 0 rfl
theorem d_Mx_get_1 : decode prog_9_method_4_code 1 = .ok (.ifCond .lt (21), 3) := dd_at dd_Mx_get 1 rfl
theorem d_Mx_get_4 : decode prog_9_method_4_code 4 = .ok (.iload_n 1, 1) := dd_at dd_Mx_get 2 rfl
theorem d_Mx_get_5 : decode prog_9_method_4_code 5 = .ok (.aload_n 0, 1) := dd_at dd_Mx_get 3 rfl
theorem d_Mx_get_6 : decode prog_9_method_4_code 6 = .ok (.getfield 9, 3) := dd_at dd_Mx_get 4 rfl
theorem d_Mx_get_9 : decode prog_9_method_4_code 9 = .ok (.arraylength, 1) := dd_at dd_Mx_get 5 rfl
theorem d_Mx_get_10 : decode prog_9_method_4_code 10 = .ok (.if_icmp .ge (12), 3) := dd_at dd_Mx_get 6 rfl
theorem d_Mx_get_13 : decode prog_9_method_4_code 13 = .ok (.aload_n 0, 1) := dd_at dd_Mx_get 7 rfl
theorem d_Mx_get_14 : decode prog_9_method_4_code 14 = .ok (.getfield 9, 3) := dd_at dd_Mx_get 8 rfl
theorem d_Mx_get_17 : decode prog_9_method_4_code 17 = .ok (.iload_n 1, 1) := dd_at dd_Mx_get 9 rfl
theorem d_Mx_get_18 : decode prog_9_method_4_code 18 = .ok (.daload, 1) := dd_at dd_Mx_get 10 rfl
theorem d_Mx_get_19 : decode prog_9_method_4_code 19 = .ok (.goto (4), 3) := dd_at dd_Mx_get 11 rfl
theorem d_Mx_get_22 : decode prog_9_method_4_code 22 = .ok (.dconst 0, 1) := dd_at dd_Mx_get 12 rfl
theorem d_Mx_get_23 : decode prog_9_method_4_code 23 = .ok (.dreturn, 1) := dd_at dd_Mx_get 13 rfl
def ld_Mx_set : List (Nat × Instr × Nat) := [(0, .iload_n 1, 1), (1, .ifCond .lt (19), 3), (4, .iload_n 1, 1), (5, .aload_n 0, 1), (6, .getfield 9, 3), (9, .arraylength, 1), (10, .if_icmp .ge (10), 3), (13, .aload_n 0, 1), (14, .getfield 9, 3), (17, .iload_n 1, 1), (18, .dload_n 2, 1), (19, .dastore, 1), (20, .return_, 1)]
theorem dd_Mx_set : (ld_Mx_set).all (dOK prog_9_method_5_code) = true := by decide +kernel
theorem d_Mx_set_0 : decode prog_9_method_5_code 0 = .ok (.iload_n 1, 1) := dd_at dd_Mx_set 0 rfl
theorem d_Mx_set_1 : decode prog_9_method_5_code 1 = .ok (.ifCond .lt (19), 3) := dd_at dd_Mx_set 1 rfl
theorem d_Mx_set_4 : decode prog_9_method_5_code 4 = .ok (.iload_n 1, 1) := dd_at dd_Mx_set 2 rfl
theorem d_Mx_set_5 : decode prog_9_method_5_code 5 = .ok (.aload_n 0, 1) := dd_at dd_Mx_set 3 rfl
theorem d_Mx_set_6 : decode prog_9_method_5_code 6 = .ok (.getfield 9, 3) := dd_at dd_Mx_set 4 rfl
theorem d_Mx_set_9 : decode prog_9_method_5_code 9 = .ok (.arraylength, 1) := dd_at dd_Mx_set 5 rfl
theorem d_Mx_set_10 : decode prog_9_method_5_code 10 = .ok (.if_icmp .ge (10), 3) := dd_at dd_Mx_set 6 rfl
theorem d_Mx_set_13 : decode prog_9_method_5_code 13 = .ok (.aload_n 0, 1) := dd_at dd_Mx_set 7 rfl
theorem d_Mx_set_14 : decode prog_9_method_5_code 14 = .ok (.getfield 9, 3) := dd_at dd_Mx_set 8 rfl
theorem d_Mx_set_17 : decode prog_9_method_5_code 17 = .ok (.iload_n 1, 1) := dd_at dd_Mx_set 9 rfl
theorem d_Mx_set_18 : decode prog_9_method_5_code 18 = .ok (.dload_n 2, 1) := dd_at dd_Mx_set 10 rfl
theorem d_Mx_set_19 : decode prog_9_method_5_code 19 = .ok (.dastore, 1) := dd_at dd_Mx_set 11 rfl
theorem d_Mx_set_20 : decode prog_9_method_5_code 20 = .ok (.return_, 1) := dd_at dd_Mx_set 12 rfl
def ld_Mx_become : List (Nat × Instr × Nat) := [(0, .aload_n 0, 1), (1, .aload_n 1, 1), (2, .getfield 15, 3), (5, .putfield 15, 3), (8, .aload_n 0, 1), (9, .aload_n 1, 1), (10, .getfield 19, 3), (13, .putfield 19, 3), (16, .aload_n 1, 1), (17, .getfield 9, 3), (20, .iconst 0, 1), (21, .aload_n 0, 1), (22, .getfield 9, 3), (25, .iconst 0, 1), (26, .aload_n 0, 1), (27, .getfield 9, 3), (30, .arraylength, 1), (31, .invokestatic 22, 3), (34, .return_, 1)]
theorem dd_Mx_become : (ld_Mx_become).all (dOK prog_9_method_6_code) = true := by decide +kernel
theorem d_Mx_become_0 : decode prog_9_method_6_code 0 = .ok (.aload_n 0, 1) := dd_at dd_Mx_become 0 rfl
theorem d_Mx_become_1 : decode prog_9_method_6_code 1 = .ok (.aload_n 1, 1) := dd_at dd_Mx_become 1 rfl
theorem d_Mx_become_2 : decode prog_9_method_6_code 2 = .ok (.getfield 15, 3) := dd_at dd_Mx_become 2 rfl
theorem d_Mx_become_5 : decode prog_9_method_6_code 5 = .ok (.putfield 15, 3) := dd_at dd_Mx_become 3 rfl
theorem d_Mx_become_8 : decode prog_9_method_6_code 8 = .ok (.aload_n 0, 1) := dd_at dd_Mx_become 4 rfl
theorem d_Mx_become_9 : decode prog_9_method_6_code 9 = .ok (.aload_n 1, 1) := dd_at dd_Mx_become 5 rfl
theorem d_Mx_become_10 : decode prog_9_method_6_code 10 = .ok (.getfield 19, 3) := dd_at dd_Mx_become 6 rfl
theorem d_Mx_become_13 : decode prog_9_method_6_code 13 = .ok (.putfield 19, 3) := dd_at dd_Mx_become 7 rfl
theorem d_Mx_become_16 : decode prog_9_method_6_code 16 = .ok (.aload_n 1, 1) := dd_at dd_Mx_become 8 rfl
theorem d_Mx_become_17 : decode prog_9_method_6_code 17 = .ok (.getfield 9, 3) := dd_at dd_Mx_become 9 rfl
theorem d_Mx_become_20 : decode prog_9_method_6_code 20 = .ok (.iconst 0, 1) := dd_at dd_Mx_become 10 rfl
theorem d_Mx_become_21 : decode prog_9_method_6_code 21 = .ok (.aload_n 0, 1) := dd_at dd_Mx_become 11 rfl
theorem d_Mx_become_22 : decode prog_9_method_6_code 22 = .ok (.getfield 9, 3) := dd_at dd_Mx_become 12 rfl
theorem d_Mx_become_25 : decode prog_9_method_6_code 25 = .ok (.iconst 0, 1) := dd_at dd_Mx_become 13 rfl
theorem d_Mx_become_26 : decode prog_9_method_6_code 26 = .ok (.aload_n 0, 1) := dd_at dd_Mx_become 14 rfl
theorem d_Mx_become_27 : decode prog_9_method_6_code 27 = .ok (.getfield 9, 3) := dd_at dd_Mx_become 15 rfl
theorem d_Mx_become_30 : decode prog_9_method_6_code 30 = .ok (.arraylength, 1) := dd_at dd_Mx_become 16 rfl
theorem d_Mx_become_31 : decode prog_9_method_6_code 31 = .ok (.invokestatic 22, 3) := dd_at dd_Mx_become 17 rfl
theorem d_Mx_become_34 : decode prog_9_method_6_code 34 = .ok (.return_, 1) := dd_at dd_Mx_become 18 rfl
def ld_Mx_isThere : List (Nat × Instr × Nat) := [(0, .aload_n 0, 1), (1, .getfield 15, 3), (4, .ifCond .le (7), 3), (7, .iconst 1, 1), (8, .goto (4), 3), (11, .iconst 0, 1), (12, .ireturn, 1)]
theorem dd_Mx_isThere : (ld_Mx_isThere).all (dOK prog_9_method_7_code) = true := by decide +kernel
theorem d_Mx_isThere_0 : decode prog_9_method_7_code 0 = .ok (.aload_n 0, 1) := dd_at dd_Mx_isThere 0 rfl
theorem d_Mx_isThere_1 : decode prog_9_method_7_code 1 = .ok (.getfield 15, 3) := dd_at dd_Mx_isThere 1 rfl
theorem d_Mx_isThere_4 : decode prog_9_method_7_code 4 = .ok (.ifCond .le (7), 3) := dd_at dd_Mx_isThere 2 rfl
theorem d_Mx_isThere_7 : decode prog_9_method_7_code 7 = .ok (.iconst 1, 1) := dd_at dd_Mx_isThere 3 rfl
theorem d_Mx_isThere_8 : decode prog_9_method_7_code 8 = .ok (.goto (4), 3) := dd_at dd_Mx_isThere 4 rfl
theorem d_Mx_isThere_11 : decode prog_9_method_7_code 11 = .ok (.iconst 0, 1) := dd_at dd_Mx_isThere 5 rfl
theorem d_Mx_isThere_12 : decode prog_9_method_7_code 12 = .ok (.ireturn, 1) := dd_at dd_Mx_isThere 6 rfl
def ld_Mx_isSquare : List (Nat × Instr × Nat) := [(0, .aload_n 0, 1), (1, .getfield 15, 3), (4, .aload_n 0, 1), (5, .getfield 19, 3), (8, .if_icmp .ne (7), 3), (11, .iconst 1, 1), (12, .goto (4), 3), (15, .iconst 0, 1), (16, .ireturn, 1)]
theorem dd_Mx_isSquare : (ld_Mx_isSquare).all (dOK prog_9_method_8_code) = true := by decide +kernel
theorem d_Mx_isSquare_0 : decode prog_9_method_8_code 0 = .ok (.aload_n 0, 1) := dd_at dd_Mx_isSquare 0 rfl
theorem d_Mx_isSquare_1 : decode prog_9_method_8_code 1 = .ok (.getfield 15, 3) := dd_at dd_Mx_isSquare 1 rfl
theorem d_Mx_isSquare_4 : decode prog_9_method_8_code 4 = .ok (.aload_n 0, 1) := dd_at dd_Mx_isSquare 2 rfl
theorem d_Mx_isSquare_5 : decode prog_9_method_8_code 5 = .ok (.getfield 19, 3) := dd_at dd_Mx_isSquare 3 rfl
theorem d_Mx_isSquare_8 : decode prog_9_method_8_code 8 = .ok (.if_icmp .ne (7), 3) := dd_at dd_Mx_isSquare 4 rfl
theorem d_Mx_isSquare_11 : decode prog_9_method_8_code 11 = .ok (.iconst 1, 1) := dd_at dd_Mx_isSquare 5 rfl
theorem d_Mx_isSquare_12 : decode prog_9_method_8_code 12 = .ok (.goto (4), 3) := dd_at dd_Mx_isSquare 6 rfl
theorem d_Mx_isSquare_15 : decode prog_9_method_8_code 15 = .ok (.iconst 0, 1) := dd_at dd_Mx_isSquare 7 rfl
theorem d_Mx_isSquare_16 : decode prog_9_method_8_code 16 = .ok (.ireturn, 1) := dd_at dd_Mx_isSquare 8 rfl
def ld_Mx_isSizedAs : List (Nat × Instr × Nat) := [(0, .aload_n 0, 1), (1, .getfield 15, 3), (4, .aload_n 1, 1), (5, .getfield 15, 3), (8, .if_icmp .ne (18), 3), (11, .aload_n 0, 1), (12, .getfield 19, 3), (15, .aload_n 1, 1), (16, .getfield 19, 3), (19, .if_icmp .ne (7), 3), (22, .iconst 1, 1), (23, .goto (4), 3), (26, .iconst 0, 1), (27, .ireturn, 1)]
theorem dd_Mx_isSizedAs : (ld_Mx_isSizedAs).all (dOK prog_9_method_9_code) = true := by decide +kernel
theorem d_Mx_isSizedAs_0 : decode prog_9_method_9_code 0 = .ok (.aload_n 0, 1) := dd_at dd_Mx_isSizedAs 0 rfl
theorem d_Mx_isSizedAs_1 : decode prog_9_method_9_code 1 = .ok (.getfield 15, 3) := dd_at dd_Mx_isSizedAs 1 rfl
theorem d_Mx_isSizedAs_4 : decode prog_9_method_9_code 4 = .ok (.aload_n 1, 1) := dd_at dd_Mx_isSizedAs 2 rfl
theorem d_Mx_isSizedAs_5 : decode prog_9_method_9_code 5 = .ok (.getfield 15, 3) := dd_at dd_Mx_isSizedAs 3 rfl
theorem d_Mx_isSizedAs_8 : decode prog_9_method_9_code 8 = .ok (.if_icmp .ne (18), 3) := dd_at dd_Mx_isSizedAs 4 rfl
theorem d_Mx_isSizedAs_11 : decode prog_9_method_9_code 11 = .ok (.aload_n 0, 1) := dd_at dd_Mx_isSizedAs 5 rfl
theorem d_Mx_isSizedAs_12 : decode prog_9_method_9_code 12 = .ok (.getfield 19, 3) := dd_at dd_Mx_isSizedAs 6 rfl
theorem d_Mx_isSizedAs_15 : decode prog_9_method_9_code 15 = .ok (.aload_n 1, 1) := dd_at dd_Mx_isSizedAs 7 rfl
theorem d_Mx_isSizedAs_16 : decode prog_9_method_9_code 16 = .ok (.getfield 19, 3) := dd_at dd_Mx_isSizedAs 8 rfl
theorem d_Mx_isSizedAs_19 : decode prog_9_method_9_code 19 = .ok (.if_icmp .ne (7), 3) := dd_at dd_Mx_isSizedAs 9 rfl
theorem d_Mx_isSizedAs_22 : decode prog_9_method_9_code 22 = .ok (.iconst 1, 1) := dd_at dd_Mx_isSizedAs 10 rfl
theorem d_Mx_isSizedAs_23 : decode prog_9_method_9_code 23 = .ok (.goto (4), 3) := dd_at dd_Mx_isSizedAs 11 rfl
theorem d_Mx_isSizedAs_26 : decode prog_9_method_9_code 26 = .ok (.iconst 0, 1) := dd_at dd_Mx_isSizedAs 12 rfl
theorem d_Mx_isSizedAs_27 : decode prog_9_method_9_code 27 = .ok (.ireturn, 1) := dd_at dd_Mx_isSizedAs 13 rfl
def ld_Lo_find : List (Nat × Instr × Nat) := [(0, .iconst 0, 1), (1, .istore_n 2, 1), (2, .iload_n 2, 1), (3, .aload_n 0, 1), (4, .getfield 25, 3), (7, .if_icmp .ge (30), 3), (10, .iload_n 2, 1), (11, .aload_n 0, 1), (12, .getfield 9, 3), (15, .arraylength, 1), (16, .if_icmp .ge (21), 3), (19, .aload_n 0, 1), (20, .getfield 9, 3), (23, .iload_n 2, 1), (24, .iaload, 1), (25, .iload_n 1, 1), (26, .if_icmp .ne (5), 3), (29, .iload_n 2, 1), (30, .ireturn, 1), (31, .iinc 2 (1), 3), (34, .goto (-32), 3), (37, .iconst (-1), 1), (38, .ireturn, 1)]
theorem dd_Lo_find : (ld_Lo_find).all (dOK prog_7_method_2_code) = true := by decide +kernel
theorem d_Lo_find_0 : decode prog_7_method_2_code 0 = .ok (.iconst 0, 1) := dd_at dd_Lo_find 0 rfl
theorem d_Lo_find_1 : decode prog_7_method_2_code 1 = .ok (.istore_n 2, 1) := dd_at dd_Lo_find 1 rfl
theorem d_Lo_find_2 : decode prog_7_method_2_code 2 = .ok (.iload_n 2, 1) := dd_at dd_Lo_find 2 rfl
theorem d_Lo_find_3 : decode prog_7_method_2_code 3 = .ok (.aload_n 0, 1) := dd_at dd_Lo_find 3 rfl
theorem d_Lo_find_4 : decode prog_7_method_2_code 4 = .ok (.getfield 25, 3) := dd_at dd_Lo_find 4 rfl
theorem d_Lo_find_7 : decode prog_7_method_2_code 7 = .ok (.if_icmp .ge (30), 3) := dd_at dd_Lo_find 5 rfl
theorem d_Lo_find_10 : decode prog_7_method_2_code 10 = .ok (.iload_n 2, 1) := dd_at dd_Lo_find 6 rfl
theorem d_Lo_find_11 : decode prog_7_method_2_code 11 = .ok (.aload_n 0, 1) := dd_at dd_Lo_find 7 rfl
theorem d_Lo_find_12 : decode prog_7_method_2_code 12 = .ok (.getfield 9, 3) := dd_at dd_Lo_find 8 rfl
theorem d_Lo_find_15 : decode prog_7_method_2_code 15 = .ok (.arraylength, 1) := dd_at dd_Lo_find 9 rfl
theorem d_Lo_find_16 : decode prog_7_method_2_code 16 = .ok (.if_icmp .ge (21), 3) := dd_at dd_Lo_find 10 rfl
theorem d_Lo_find_19 : decode prog_7_method_2_code 19 = .ok (.aload_n 0, 1) := dd_at dd_Lo_find 11 rfl
theorem d_Lo_find_20 : decode prog_7_method_2_code 20 = .ok (.getfield 9, 3) := dd_at dd_Lo_find 12 rfl
theorem d_Lo_find_23 : decode prog_7_method_2_code 23 = .ok (.iload_n 2, 1) := dd_at dd_Lo_find 13 rfl
theorem d_Lo_find_24 : decode prog_7_method_2_code 24 = .ok (.iaload, 1) := dd_at dd_Lo_find 14 rfl
theorem d_Lo_find_25 : decode prog_7_method_2_code 25 = .ok (.iload_n 1, 1) := dd_at dd_Lo_find 15 rfl
theorem d_Lo_find_26 : decode prog_7_method_2_code 26 = .ok (.if_icmp .ne (5), 3) := dd_at dd_Lo_find 16 rfl
theorem d_Lo_find_29 : decode prog_7_method_2_code 29 = .ok (.iload_n 2, 1) := dd_at dd_Lo_find 17 rfl
theorem d_Lo_find_30 : decode prog_7_method_2_code 30 = .ok (.ireturn, 1) := dd_at dd_Lo_find 18 rfl
theorem d_Lo_find_31 : decode prog_7_method_2_code 31 = .ok (.iinc 2 (1), 3) := dd_at dd_Lo_find 19 rfl
theorem d_Lo_find_34 : decode prog_7_method_2_code 34 = .ok (.goto (-32), 3) := dd_at dd_Lo_find 20 rfl
theorem d_Lo_find_37 : decode prog_7_method_2_code 37 = .ok (.iconst (-1), 1) := dd_at dd_Lo_find 21 rfl
theorem d_Lo_find_38 : decode prog_7_method_2_code 38 = .ok (.ireturn, 1) := dd_at dd_Lo_find 22 rfl
def ld_Lo_add : List (Nat × Instr × Nat) := [(0, .aload_n 0, 1), (1, .getfield 25, 3), (4, .aload_n 0, 1), (5, .getfield 9, 3), (8, .arraylength, 1), (9, .if_icmp .lt (5), 3), (12, .iconst 0, 1), (13, .ireturn, 1), (14, .aload_n 0, 1), (15, .getfield 9, 3), (18, .aload_n 0, 1), (19, .getfield 25, 3), (22, .iload_n 1, 1), (23, .iastore, 1), (24, .aload_n 0, 1), (25, .getfield 15, 3), (28, .aload_n 0, 1), (29, .getfield 25, 3), (32, .iload_n 2, 1), (33, .iastore, 1), (34, .aload_n 0, 1), (35, .getfield 18, 3), (38, .aload_n 0, 1), (39, .getfield 25, 3), (42, .dload_n 3, 1), (43, .dastore, 1), (44, .aload_n 0, 1), (45, .getfield 22, 3), (48, .aload_n 0, 1), (49, .getfield 25, 3), (52, .dload 5, 2), (54, .dastore, 1), (55, .aload_n 0, 1), (56, .dup, 1), (57, .getfield 25, 3), (60, .iconst 1, 1), (61, .iadd, 1), (62, .putfield 25, 3), (65, .iconst 1, 1), (66, .ireturn, 1)]
theorem dd_Lo_add : (ld_Lo_add).all (dOK prog_7_method_3_code) = true := by decide +kernel
theorem d_Lo_add_0 : decode prog_7_method_3_code 0 = .ok (.aload_n 0, 1) := dd_at dd_Lo_add 0 rfl
theorem d_Lo_add_1 : decode prog_7_method_3_code 1 = .ok (.getfield 25, 3) := dd_at dd_Lo_add 1 rfl
theorem d_Lo_add_4 : decode prog_7_method_3_code 4 = .ok (.aload_n 0, 1) := dd_at dd_Lo_add 2 rfl
theorem d_Lo_add_5 : decode prog_7_method_3_code 5 = .ok (.getfield 9, 3) := dd_at dd_Lo_add 3 rfl
theorem d_Lo_add_8 : decode prog_7_method_3_code 8 = .ok (.arraylength, 1) := dd_at dd_Lo_add 4 rfl
theorem d_Lo_add_9 : decode prog_7_method_3_code 9 = .ok (.if_icmp .lt (5), 3) := dd_at dd_Lo_add 5 rfl
theorem d_Lo_add_12 : decode prog_7_method_3_code 12 = .ok (.iconst 0, 1) := dd_at dd_Lo_add 6 rfl
theorem d_Lo_add_13 : decode prog_7_method_3_code 13 = .ok (.ireturn, 1) := dd_at dd_Lo_add 7 rfl
theorem d_Lo_add_14 : decode prog_7_method_3_code 14 = .ok (.aload_n 0, 1) := dd_at dd_Lo_add 8 rfl
theorem d_Lo_add_15 : decode prog_7_method_3_code 15 = .ok (.getfield 9, 3) := dd_at dd_Lo_add 9 rfl
theorem d_Lo_add_18 : decode prog_7_method_3_code 18 = .ok (.aload_n 0, 1) := dd_at dd_Lo_add 10 rfl
theorem d_Lo_add_19 : decode prog_7_method_3_code 19 = .ok (.getfield 25, 3) := dd_at dd_Lo_add 11 rfl
theorem d_Lo_add_22 : decode prog_7_method_3_code 22 = .ok (.iload_n 1, 1) := dd_at dd_Lo_add 12 rfl
theorem d_Lo_add_23 : decode prog_7_method_3_code 23 = .ok (.iastore, 1) := dd_at dd_Lo_add 13 rfl
theorem d_Lo_add_24 : decode prog_7_method_3_code 24 = .ok (.aload_n 0, 1) := dd_at dd_Lo_add 14 rfl
theorem d_Lo_add_25 : decode prog_7_method_3_code 25 = .ok (.getfield 15, 3) := dd_at dd_Lo_add 15 rfl
theorem d_Lo_add_28 : decode prog_7_method_3_code 28 = .ok (.aload_n 0, 1) := dd_at dd_Lo_add 16 rfl
theorem d_Lo_add_29 : decode prog_7_method_3_code 29 = .ok (.getfield 25, 3) := dd_at dd_Lo_add 17 rfl
theorem d_Lo_add_32 : decode prog_7_method_3_code 32 = .ok (.iload_n 2, 1) := dd_at dd_Lo_add 18 rfl
theorem d_Lo_add_33 : decode prog_7_method_3_code 33 = .ok (.iastore, 1) := dd_at dd_Lo_add 19 rfl
theorem d_Lo_add_34 : decode prog_7_method_3_code 34 = .ok (.aload_n 0, 1) := dd_at dd_Lo_add 20 rfl
theorem d_Lo_add_35 : decode prog_7_method_3_code 35 = .ok (.getfield 18, 3) := dd_at dd_Lo_add 21 rfl
theorem d_Lo_add_38 : decode prog_7_method_3_code 38 = .ok (.aload_n 0, 1) := dd_at dd_Lo_add 22 rfl
theorem d_Lo_add_39 : decode prog_7_method_3_code 39 = .ok (.getfield 25, 3) := dd_at dd_Lo_add 23 rfl
theorem d_Lo_add_42 : decode prog_7_method_3_code 42 = .ok (.dload_n 3, 1) := dd_at dd_Lo_add 24 rfl
theorem d_Lo_add_43 : decode prog_7_method_3_code 43 = .ok (.dastore, 1) := dd_at dd_Lo_add 25 rfl
theorem d_Lo_add_44 : decode prog_7_method_3_code 44 = .ok (.aload_n 0, 1) := dd_at dd_Lo_add 26 rfl
theorem d_Lo_add_45 : decode prog_7_method_3_code 45 = .ok (.getfield 22, 3) := dd_at dd_Lo_add 27 rfl
theorem d_Lo_add_48 : decode prog_7_method_3_code 48 = .ok (.aload_n 0, 1) := dd_at dd_Lo_add 28 rfl
theorem d_Lo_add_49 : decode prog_7_method_3_code 49 = .ok (.getfield 25, 3) := dd_at dd_Lo_add 29 rfl
theorem d_Lo_add_52 : decode prog_7_method_3_code 52 = .ok (.dload 5, 2) := dd_at dd_Lo_add 30 rfl
theorem d_Lo_add_54 : decode prog_7_method_3_code 54 = .ok (.dastore, 1) := dd_at dd_Lo_add 31 rfl
theorem d_Lo_add_55 : decode prog_7_method_3_code 55 = .ok (.aload_n 0, 1) := dd_at dd_Lo_add 32 rfl
theorem d_Lo_add_56 : decode prog_7_method_3_code 56 = .ok (.dup, 1) := dd_at dd_Lo_add 33 rfl
theorem d_Lo_add_57 : decode prog_7_method_3_code 57 = .ok (.getfield 25, 3) := dd_at dd_Lo_add 34 rfl
theorem d_Lo_add_60 : decode prog_7_method_3_code 60 = .ok (.iconst 1, 1) := dd_at dd_Lo_add 35 rfl
theorem d_Lo_add_61 : decode prog_7_method_3_code 61 = .ok (.iadd, 1) := dd_at dd_Lo_add 36 rfl
theorem d_Lo_add_62 : decode prog_7_method_3_code 62 = .ok (.putfield 25, 3) := dd_at dd_Lo_add 37 rfl
theorem d_Lo_add_65 : decode prog_7_method_3_code 65 = .ok (.iconst 1, 1) := dd_at dd_Lo_add 38 rfl
theorem d_Lo_add_66 : decode prog_7_method_3_code 66 = .ok (.ireturn, 1) := dd_at dd_Lo_add 39 rfl
def ld_Lo_placeOf : List (Nat × Instr × Nat) := [(0, .iload_n 1, 1), (1, .ifCond .lt (21), 3), (4, .iload_n 1, 1), (5, .aload_n 0, 1), (6, .getfield 15, 3), (9, .arraylength, 1), (10, .if_icmp .ge (12), 3), (13, .aload_n 0, 1), (14, .getfield 15, 3), (17, .iload_n 1, 1), (18, .iaload, 1), (19, .goto (4), 3), (22, .iconst (-1), 1), (23, .ireturn, 1)]
theorem dd_Lo_placeOf : (ld_Lo_placeOf).all (dOK prog_7_method_4_code) = true := by decide +kernel
theorem d_Lo_placeOf_0 : decode prog_7_method_4_code 0 = .ok (.iload_n 1, 1) := dd_at dd_Lo_placeOf 0 rfl
theorem d_Lo_placeOf_1 : decode prog_7_method_4_code 1 = .ok (.ifCond .lt (21), 3) := dd_at dd_Lo_placeOf 1 rfl
theorem d_Lo_placeOf_4 : decode prog_7_method_4_code 4 = .ok (.iload_n 1, 1) := dd_at dd_Lo_placeOf 2 rfl
theorem d_Lo_placeOf_5 : decode prog_7_method_4_code 5 = .ok (.aload_n 0, 1) := dd_at dd_Lo_placeOf 3 rfl
theorem d_Lo_placeOf_6 : decode prog_7_method_4_code 6 = .ok (.getfield 15, 3) := dd_at dd_Lo_placeOf 4 rfl
theorem d_Lo_placeOf_9 : decode prog_7_method_4_code 9 = .ok (.arraylength, 1) := dd_at dd_Lo_placeOf 5 rfl
theorem d_Lo_placeOf_10 : decode prog_7_method_4_code 10 = .ok (.if_icmp .ge (12), 3) := dd_at dd_Lo_placeOf 6 rfl
theorem d_Lo_placeOf_13 : decode prog_7_method_4_code 13 = .ok (.aload_n 0, 1) := dd_at dd_Lo_placeOf 7 rfl
theorem d_Lo_placeOf_14 : decode prog_7_method_4_code 14 = .ok (.getfield 15, 3) := dd_at dd_Lo_placeOf 8 rfl
theorem d_Lo_placeOf_17 : decode prog_7_method_4_code 17 = .ok (.iload_n 1, 1) := dd_at dd_Lo_placeOf 9 rfl
theorem d_Lo_placeOf_18 : decode prog_7_method_4_code 18 = .ok (.iaload, 1) := dd_at dd_Lo_placeOf 10 rfl
theorem d_Lo_placeOf_19 : decode prog_7_method_4_code 19 = .ok (.goto (4), 3) := dd_at dd_Lo_placeOf 11 rfl
theorem d_Lo_placeOf_22 : decode prog_7_method_4_code 22 = .ok (.iconst (-1), 1) := dd_at dd_Lo_placeOf 12 rfl
theorem d_Lo_placeOf_23 : decode prog_7_method_4_code 23 = .ok (.ireturn, 1) := dd_at dd_Lo_placeOf 13 rfl
def ld_Lo_limitOf : List (Nat × Instr × Nat) := [(0, .iload_n 1, 1), (1, .ifCond .lt (21), 3), (4, .iload_n 1, 1), (5, .aload_n 0, 1), (6, .getfield 18, 3), (9, .arraylength, 1), (10, .if_icmp .ge (12), 3), (13, .aload_n 0, 1), (14, .getfield 18, 3), (17, .iload_n 1, 1), (18, .daload, 1), (19, .goto (4), 3), (22, .dconst 0, 1), (23, .dreturn, 1)]
theorem dd_Lo_limitOf : (ld_Lo_limitOf).all (dOK prog_7_method_5_code) = true := by decide +kernel
theorem d_Lo_limitOf_0 : decode prog_7_method_5_code 0 = .ok (.iload_n 1, 1) := dd_at dd_Lo_limitOf 0 rfl
theorem d_Lo_limitOf_1 : decode prog_7_method_5_code 1 = .ok (.ifCond .lt (21), 3) := dd_at dd_Lo_limitOf 1 rfl
theorem d_Lo_limitOf_4 : decode prog_7_method_5_code 4 = .ok (.iload_n 1, 1) := dd_at dd_Lo_limitOf 2 rfl
theorem d_Lo_limitOf_5 : decode prog_7_method_5_code 5 = .ok (.aload_n 0, 1) := dd_at dd_Lo_limitOf 3 rfl
theorem d_Lo_limitOf_6 : decode prog_7_method_5_code 6 = .ok (.getfield 18, 3) := dd_at dd_Lo_limitOf 4 rfl
theorem d_Lo_limitOf_9 : decode prog_7_method_5_code 9 = .ok (.arraylength, 1) := dd_at dd_Lo_limitOf 5 rfl
theorem d_Lo_limitOf_10 : decode prog_7_method_5_code 10 = .ok (.if_icmp .ge (12), 3) := dd_at dd_Lo_limitOf 6 rfl
theorem d_Lo_limitOf_13 : decode prog_7_method_5_code 13 = .ok (.aload_n 0, 1) := dd_at dd_Lo_limitOf 7 rfl
theorem d_Lo_limitOf_14 : decode prog_7_method_5_code 14 = .ok (.getfield 18, 3) := dd_at dd_Lo_limitOf 8 rfl
theorem d_Lo_limitOf_17 : decode prog_7_method_5_code 17 = .ok (.iload_n 1, 1) := dd_at dd_Lo_limitOf 9 rfl
theorem d_Lo_limitOf_18 : decode prog_7_method_5_code 18 = .ok (.daload, 1) := dd_at dd_Lo_limitOf 10 rfl
theorem d_Lo_limitOf_19 : decode prog_7_method_5_code 19 = .ok (.goto (4), 3) := dd_at dd_Lo_limitOf 11 rfl
theorem d_Lo_limitOf_22 : decode prog_7_method_5_code 22 = .ok (.dconst 0, 1) := dd_at dd_Lo_limitOf 12 rfl
theorem d_Lo_limitOf_23 : decode prog_7_method_5_code 23 = .ok (.dreturn, 1) := dd_at dd_Lo_limitOf 13 rfl
def ld_Lo_stepOf : List (Nat × Instr × Nat) := [(0, .iload_n 1, 1), (1, .ifCond .lt (21), 3), (4, .iload_n 1, 1), (5, .aload_n 0, 1), (6, .getfield 22, 3), (9, .arraylength, 1), (10, .if_icmp .ge (12), 3), (13, .aload_n 0, 1), (14, .getfield 22, 3), (17, .iload_n 1, 1), (18, .daload, 1), (19, .goto (4), 3), (22, .dconst 0, 1), (23, .dreturn, 1)]
theorem dd_Lo_stepOf : (ld_Lo_stepOf).all (dOK prog_7_method_6_code) = true := by decide +kernel
theorem d_Lo_stepOf_0 : decode prog_7_method_6_code 0 = .ok (.iload_n 1, 1) := dd_at dd_Lo_stepOf 0 rfl
theorem d_Lo_stepOf_1 : decode prog_7_method_6_code 1 = .ok (.ifCond .lt (21), 3) := dd_at dd_Lo_stepOf 1 rfl
theorem d_Lo_stepOf_4 : decode prog_7_method_6_code 4 = .ok (.iload_n 1, 1) := dd_at dd_Lo_stepOf 2 rfl
theorem d_Lo_stepOf_5 : decode prog_7_method_6_code 5 = .ok (.aload_n 0, 1) := dd_at dd_Lo_stepOf 3 rfl
theorem d_Lo_stepOf_6 : decode prog_7_method_6_code 6 = .ok (.getfield 22, 3) := dd_at dd_Lo_stepOf 4 rfl
theorem d_Lo_stepOf_9 : decode prog_7_method_6_code 9 = .ok (.arraylength, 1) := dd_at dd_Lo_stepOf 5 rfl
theorem d_Lo_stepOf_10 : decode prog_7_method_6_code 10 = .ok (.if_icmp .ge (12), 3) := dd_at dd_Lo_stepOf 6 rfl
theorem d_Lo_stepOf_13 : decode prog_7_method_6_code 13 = .ok (.aload_n 0, 1) := dd_at dd_Lo_stepOf 7 rfl
theorem d_Lo_stepOf_14 : decode prog_7_method_6_code 14 = .ok (.getfield 22, 3) := dd_at dd_Lo_stepOf 8 rfl
theorem d_Lo_stepOf_17 : decode prog_7_method_6_code 17 = .ok (.iload_n 1, 1) := dd_at dd_Lo_stepOf 9 rfl
theorem d_Lo_stepOf_18 : decode prog_7_method_6_code 18 = .ok (.daload, 1) := dd_at dd_Lo_stepOf 10 rfl
theorem d_Lo_stepOf_19 : decode prog_7_method_6_code 19 = .ok (.goto (4), 3) := dd_at dd_Lo_stepOf 11 rfl
theorem d_Lo_stepOf_22 : decode prog_7_method_6_code 22 = .ok (.dconst 0, 1) := dd_at dd_Lo_stepOf 12 rfl
theorem d_Lo_stepOf_23 : decode prog_7_method_6_code 23 = .ok (.dreturn, 1) := dd_at dd_Lo_stepOf 13 rfl
def ld_Pr_lineAt : List (Nat × Instr × Nat) := [(0, .iload_n 1, 1), (1, .ifCond .lt (29), 3), (4, .iload_n 1, 1), (5, .aload_n 0, 1), (6, .getfield 18, 3), (9, .if_icmp .ge (21), 3), (12, .iload_n 1, 1), (13, .aload_n 0, 1), (14, .getfield 11, 3), (17, .arraylength, 1), (18, .if_icmp .ge (12), 3), (21, .aload_n 0, 1), (22, .getfield 11, 3), (25, .iload_n 1, 1), (26, .aaload, 1), (27, .goto (4), 3), (30, .aconst_null, 1), (31, .areturn, 1)]
theorem dd_Pr_lineAt : (ld_Pr_lineAt).all (dOK prog_11_method_2_code) = true := by decide +kernel
theorem d_Pr_lineAt_0 : decode prog_11_method_2_code 0 = .ok (.iload_n 1, 1) := dd_at dd_Pr_lineAt 0 rfl
theorem d_Pr_lineAt_1 : decode prog_11_method_2_code 1 = .ok (.ifCond .lt (29), 3) := dd_at dd_Pr_lineAt 1 rfl
theorem d_Pr_lineAt_4 : decode prog_11_method_2_code 4 = .ok (.iload_n 1, 1) := dd_at dd_Pr_lineAt 2 rfl
theorem d_Pr_lineAt_5 : decode prog_11_method_2_code 5 = .ok (.aload_n 0, 1) := dd_at dd_Pr_lineAt 3 rfl
theorem d_Pr_lineAt_6 : decode prog_11_method_2_code 6 = .ok (.getfield 18, 3) := dd_at dd_Pr_lineAt 4 rfl
theorem d_Pr_lineAt_9 : decode prog_11_method_2_code 9 = .ok (.if_icmp .ge (21), 3) := dd_at dd_Pr_lineAt 5 rfl
theorem d_Pr_lineAt_12 : decode prog_11_method_2_code 12 = .ok (.iload_n 1, 1) := dd_at dd_Pr_lineAt 6 rfl
theorem d_Pr_lineAt_13 : decode prog_11_method_2_code 13 = .ok (.aload_n 0, 1) := dd_at dd_Pr_lineAt 7 rfl
theorem d_Pr_lineAt_14 : decode prog_11_method_2_code 14 = .ok (.getfield 11, 3) := dd_at dd_Pr_lineAt 8 rfl
theorem d_Pr_lineAt_17 : decode prog_11_method_2_code 17 = .ok (.arraylength, 1) := dd_at dd_Pr_lineAt 9 rfl
theorem d_Pr_lineAt_18 : decode prog_11_method_2_code 18 = .ok (.if_icmp .ge (12), 3) := dd_at dd_Pr_lineAt 10 rfl
theorem d_Pr_lineAt_21 : decode prog_11_method_2_code 21 = .ok (.aload_n 0, 1) := dd_at dd_Pr_lineAt 11 rfl
theorem d_Pr_lineAt_22 : decode prog_11_method_2_code 22 = .ok (.getfield 11, 3) := dd_at dd_Pr_lineAt 12 rfl
theorem d_Pr_lineAt_25 : decode prog_11_method_2_code 25 = .ok (.iload_n 1, 1) := dd_at dd_Pr_lineAt 13 rfl
theorem d_Pr_lineAt_26 : decode prog_11_method_2_code 26 = .ok (.aaload, 1) := dd_at dd_Pr_lineAt 14 rfl
theorem d_Pr_lineAt_27 : decode prog_11_method_2_code 27 = .ok (.goto (4), 3) := dd_at dd_Pr_lineAt 15 rfl
theorem d_Pr_lineAt_30 : decode prog_11_method_2_code 30 = .ok (.aconst_null, 1) := dd_at dd_Pr_lineAt 16 rfl
theorem d_Pr_lineAt_31 : decode prog_11_method_2_code 31 = .ok (.areturn, 1) := dd_at dd_Pr_lineAt 17 rfl
def ld_Pr_numberOf : List (Nat × Instr × Nat) := [(0, .aload_n 0, 1), (1, .iload_n 1, 1), (2, .invokevirtual 22, 3), (5, .astore_n 2, 1), (6, .aload_n 2, 1), (7, .ifnonnull (7), 3), (10, .iconst (-1), 1), (11, .goto (7), 3), (14, .aload_n 2, 1), (15, .getfield 26, 3), (18, .ireturn, 1)]
theorem dd_Pr_numberOf : (ld_Pr_numberOf).all (dOK prog_11_method_3_code) = true := by decide +kernel
theorem d_Pr_numberOf_0 : decode prog_11_method_3_code 0 = .ok (.aload_n 0, 1) := dd_at dd_Pr_numberOf 0 rfl
theorem d_Pr_numberOf_1 : decode prog_11_method_3_code 1 = .ok (.iload_n 1, 1) := dd_at dd_Pr_numberOf 1 rfl
theorem d_Pr_numberOf_2 : decode prog_11_method_3_code 2 = .ok (.invokevirtual 22, 3) := dd_at dd_Pr_numberOf 2 rfl
theorem d_Pr_numberOf_5 : decode prog_11_method_3_code 5 = .ok (.astore_n 2, 1) := dd_at dd_Pr_numberOf 3 rfl
theorem d_Pr_numberOf_6 : decode prog_11_method_3_code 6 = .ok (.aload_n 2, 1) := dd_at dd_Pr_numberOf 4 rfl
theorem d_Pr_numberOf_7 : decode prog_11_method_3_code 7 = .ok (.ifnonnull (7), 3) := dd_at dd_Pr_numberOf 5 rfl
theorem d_Pr_numberOf_10 : decode prog_11_method_3_code 10 = .ok (.iconst (-1), 1) := dd_at dd_Pr_numberOf 6 rfl
theorem d_Pr_numberOf_11 : decode prog_11_method_3_code 11 = .ok (.goto (7), 3) := dd_at dd_Pr_numberOf 7 rfl
theorem d_Pr_numberOf_14 : decode prog_11_method_3_code 14 = .ok (.aload_n 2, 1) := dd_at dd_Pr_numberOf 8 rfl
theorem d_Pr_numberOf_15 : decode prog_11_method_3_code 15 = .ok (.getfield 26, 3) := dd_at dd_Pr_numberOf 9 rfl
theorem d_Pr_numberOf_18 : decode prog_11_method_3_code 18 = .ok (.ireturn, 1) := dd_at dd_Pr_numberOf 10 rfl
def ld_Pr_find : List (Nat × Instr × Nat) := [(0, .iconst 0, 1), (1, .istore_n 2, 1), (2, .iload_n 2, 1), (3, .aload_n 0, 1), (4, .getfield 18, 3), (7, .if_icmp .ge (20), 3), (10, .aload_n 0, 1), (11, .iload_n 2, 1), (12, .invokevirtual 29, 3), (15, .iload_n 1, 1), (16, .if_icmp .ne (5), 3), (19, .iload_n 2, 1), (20, .ireturn, 1), (21, .iinc 2 (1), 3), (24, .goto (-22), 3), (27, .iconst (-1), 1), (28, .ireturn, 1)]
theorem dd_Pr_find : (ld_Pr_find).all (dOK prog_11_method_4_code) = true := by decide +kernel
theorem d_Pr_find_0 : decode prog_11_method_4_code 0 = .ok (.iconst 0, 1) := dd_at dd_Pr_find 0 rfl
theorem d_Pr_find_1 : decode prog_11_method_4_code 1 = .ok (.istore_n 2, 1) := dd_at dd_Pr_find 1 rfl
theorem d_Pr_find_2 : decode prog_11_method_4_code 2 = .ok (.iload_n 2, 1) := dd_at dd_Pr_find 2 rfl
theorem d_Pr_find_3 : decode prog_11_method_4_code 3 = .ok (.aload_n 0, 1) := dd_at dd_Pr_find 3 rfl
theorem d_Pr_find_4 : decode prog_11_method_4_code 4 = .ok (.getfield 18, 3) := dd_at dd_Pr_find 4 rfl
theorem d_Pr_find_7 : decode prog_11_method_4_code 7 = .ok (.if_icmp .ge (20), 3) := dd_at dd_Pr_find 5 rfl
theorem d_Pr_find_10 : decode prog_11_method_4_code 10 = .ok (.aload_n 0, 1) := dd_at dd_Pr_find 6 rfl
theorem d_Pr_find_11 : decode prog_11_method_4_code 11 = .ok (.iload_n 2, 1) := dd_at dd_Pr_find 7 rfl
theorem d_Pr_find_12 : decode prog_11_method_4_code 12 = .ok (.invokevirtual 29, 3) := dd_at dd_Pr_find 8 rfl
theorem d_Pr_find_15 : decode prog_11_method_4_code 15 = .ok (.iload_n 1, 1) := dd_at dd_Pr_find 9 rfl
theorem d_Pr_find_16 : decode prog_11_method_4_code 16 = .ok (.if_icmp .ne (5), 3) := dd_at dd_Pr_find 10 rfl
theorem d_Pr_find_19 : decode prog_11_method_4_code 19 = .ok (.iload_n 2, 1) := dd_at dd_Pr_find 11 rfl
theorem d_Pr_find_20 : decode prog_11_method_4_code 20 = .ok (.ireturn, 1) := dd_at dd_Pr_find 12 rfl
theorem d_Pr_find_21 : decode prog_11_method_4_code 21 = .ok (.iinc 2 (1), 3) := dd_at dd_Pr_find 13 rfl
theorem d_Pr_find_24 : decode prog_11_method_4_code 24 = .ok (.goto (-22), 3) := dd_at dd_Pr_find 14 rfl
theorem d_Pr_find_27 : decode prog_11_method_4_code 27 = .ok (.iconst (-1), 1) := dd_at dd_Pr_find 15 rfl
theorem d_Pr_find_28 : decode prog_11_method_4_code 28 = .ok (.ireturn, 1) := dd_at dd_Pr_find 16 rfl
def ld_Pr_placeFor : List (Nat × Instr × Nat) := [(0, .iconst 0, 1), (1, .istore_n 2, 1), (2, .iload_n 2, 1), (3, .aload_n 0, 1), (4, .getfield 18, 3), (7, .if_icmp .ge (18), 3), (10, .aload_n 0, 1), (11, .iload_n 2, 1), (12, .invokevirtual 29, 3), (15, .iload_n 1, 1), (16, .if_icmp .ge (9), 3), (19, .iinc 2 (1), 3), (22, .goto (-20), 3), (25, .iload_n 2, 1), (26, .ireturn, 1)]
theorem dd_Pr_placeFor : (ld_Pr_placeFor).all (dOK prog_11_method_5_code) = true := by decide +kernel
theorem d_Pr_placeFor_0 : decode prog_11_method_5_code 0 = .ok (.iconst 0, 1) := dd_at dd_Pr_placeFor 0 rfl
theorem d_Pr_placeFor_1 : decode prog_11_method_5_code 1 = .ok (.istore_n 2, 1) := dd_at dd_Pr_placeFor 1 rfl
theorem d_Pr_placeFor_2 : decode prog_11_method_5_code 2 = .ok (.iload_n 2, 1) := dd_at dd_Pr_placeFor 2 rfl
theorem d_Pr_placeFor_3 : decode prog_11_method_5_code 3 = .ok (.aload_n 0, 1) := dd_at dd_Pr_placeFor 3 rfl
theorem d_Pr_placeFor_4 : decode prog_11_method_5_code 4 = .ok (.getfield 18, 3) := dd_at dd_Pr_placeFor 4 rfl
theorem d_Pr_placeFor_7 : decode prog_11_method_5_code 7 = .ok (.if_icmp .ge (18), 3) := dd_at dd_Pr_placeFor 5 rfl
theorem d_Pr_placeFor_10 : decode prog_11_method_5_code 10 = .ok (.aload_n 0, 1) := dd_at dd_Pr_placeFor 6 rfl
theorem d_Pr_placeFor_11 : decode prog_11_method_5_code 11 = .ok (.iload_n 2, 1) := dd_at dd_Pr_placeFor 7 rfl
theorem d_Pr_placeFor_12 : decode prog_11_method_5_code 12 = .ok (.invokevirtual 29, 3) := dd_at dd_Pr_placeFor 8 rfl
theorem d_Pr_placeFor_15 : decode prog_11_method_5_code 15 = .ok (.iload_n 1, 1) := dd_at dd_Pr_placeFor 9 rfl
theorem d_Pr_placeFor_16 : decode prog_11_method_5_code 16 = .ok (.if_icmp .ge (9), 3) := dd_at dd_Pr_placeFor 10 rfl
theorem d_Pr_placeFor_19 : decode prog_11_method_5_code 19 = .ok (.iinc 2 (1), 3) := dd_at dd_Pr_placeFor 11 rfl
theorem d_Pr_placeFor_22 : decode prog_11_method_5_code 22 = .ok (.goto (-20), 3) := dd_at dd_Pr_placeFor 12 rfl
theorem d_Pr_placeFor_25 : decode prog_11_method_5_code 25 = .ok (.iload_n 2, 1) := dd_at dd_Pr_placeFor 13 rfl
theorem d_Pr_placeFor_26 : decode prog_11_method_5_code 26 = .ok (.ireturn, 1) := dd_at dd_Pr_placeFor 14 rfl
def ld_Pr_put : List (Nat × Instr × Nat) := [(0, .aload_n 0, 1), (1, .aload_n 1, 1), (2, .getfield 26, 3), (5, .invokevirtual 33, 3), (8, .istore_n 2, 1), (9, .aload_n 0, 1), (10, .iload_n 2, 1), (11, .invokevirtual 22, 3), (14, .astore_n 3, 1), (15, .aload_n 3, 1), (16, .ifnull (23), 3), (19, .aload_n 3, 1), (20, .getfield 26, 3), (23, .aload_n 1, 1), (24, .getfield 26, 3), (27, .if_icmp .ne (12), 3), (30, .aload_n 0, 1), (31, .getfield 11, 3), (34, .iload_n 2, 1), (35, .aload_n 1, 1), (36, .aastore, 1), (37, .aload_n 3, 1), (38, .areturn, 1), (39, .aload_n 0, 1), (40, .getfield 18, 3), (43, .aload_n 0, 1), (44, .getfield 11, 3), (47, .arraylength, 1), (48, .if_icmp .lt (5), 3), (51, .aconst_null, 1), (52, .areturn, 1), (53, .aload_n 0, 1), (54, .getfield 11, 3), (57, .aload_n 0, 1), (58, .getfield 18, 3), (61, .aaload, 1), (62, .astore 4, 2), (64, .aload_n 0, 1), (65, .getfield 18, 3), (68, .istore 5, 2), (70, .iload 5, 2), (72, .iload_n 2, 1), (73, .if_icmp .le (25), 3), (76, .aload_n 0, 1), (77, .getfield 11, 3), (80, .iload 5, 2), (82, .aload_n 0, 1), (83, .getfield 11, 3), (86, .iload 5, 2), (88, .iconst 1, 1), (89, .isub, 1), (90, .aaload, 1), (91, .aastore, 1), (92, .iinc 5 (-1), 3), (95, .goto (-25), 3), (98, .aload_n 0, 1), (99, .getfield 11, 3), (102, .iload_n 2, 1), (103, .aload_n 1, 1), (104, .aastore, 1), (105, .aload_n 0, 1), (106, .dup, 1), (107, .getfield 18, 3), (110, .iconst 1, 1), (111, .iadd, 1), (112, .putfield 18, 3), (115, .aload 4, 2), (117, .areturn, 1)]
theorem dd_Pr_put : (ld_Pr_put).all (dOK prog_11_method_6_code) = true := by decide +kernel
theorem d_Pr_put_0 : decode prog_11_method_6_code 0 = .ok (.aload_n 0, 1) := dd_at dd_Pr_put 0 rfl
theorem d_Pr_put_1 : decode prog_11_method_6_code 1 = .ok (.aload_n 1, 1) := dd_at dd_Pr_put 1 rfl
theorem d_Pr_put_2 : decode prog_11_method_6_code 2 = .ok (.getfield 26, 3) := dd_at dd_Pr_put 2 rfl
theorem d_Pr_put_5 : decode prog_11_method_6_code 5 = .ok (.invokevirtual 33, 3) := dd_at dd_Pr_put 3 rfl
theorem d_Pr_put_8 : decode prog_11_method_6_code 8 = .ok (.istore_n 2, 1) := dd_at dd_Pr_put 4 rfl
theorem d_Pr_put_9 : decode prog_11_method_6_code 9 = .ok (.aload_n 0, 1) := dd_at dd_Pr_put 5 rfl
theorem d_Pr_put_10 : decode prog_11_method_6_code 10 = .ok (.iload_n 2, 1) := dd_at dd_Pr_put 6 rfl
theorem d_Pr_put_11 : decode prog_11_method_6_code 11 = .ok (.invokevirtual 22, 3) := dd_at dd_Pr_put 7 rfl
theorem d_Pr_put_14 : decode prog_11_method_6_code 14 = .ok (.astore_n 3, 1) := dd_at dd_Pr_put 8 rfl
theorem d_Pr_put_15 : decode prog_11_method_6_code 15 = .ok (.aload_n 3, 1) := dd_at dd_Pr_put 9 rfl
theorem d_Pr_put_16 : decode prog_11_method_6_code 16 = .ok (.ifnull (23), 3) := dd_at dd_Pr_put 10 rfl
theorem d_Pr_put_19 : decode prog_11_method_6_code 19 = .ok (.aload_n 3, 1) := dd_at dd_Pr_put 11 rfl
theorem d_Pr_put_20 : decode prog_11_method_6_code 20 = .ok (.getfield 26, 3) := dd_at dd_Pr_put 12 rfl
theorem d_Pr_put_23 : decode prog_11_method_6_code 23 = .ok (.aload_n 1, 1) := dd_at dd_Pr_put 13 rfl
theorem d_Pr_put_24 : decode prog_11_method_6_code 24 = .ok (.getfield 26, 3) := dd_at dd_Pr_put 14 rfl
theorem d_Pr_put_27 : decode prog_11_method_6_code 27 = .ok (.if_icmp .ne (12), 3) := dd_at dd_Pr_put 15 rfl
theorem d_Pr_put_30 : decode prog_11_method_6_code 30 = .ok (.aload_n 0, 1) := dd_at dd_Pr_put 16 rfl
theorem d_Pr_put_31 : decode prog_11_method_6_code 31 = .ok (.getfield 11, 3) := dd_at dd_Pr_put 17 rfl
theorem d_Pr_put_34 : decode prog_11_method_6_code 34 = .ok (.iload_n 2, 1) := dd_at dd_Pr_put 18 rfl
theorem d_Pr_put_35 : decode prog_11_method_6_code 35 = .ok (.aload_n 1, 1) := dd_at dd_Pr_put 19 rfl
theorem d_Pr_put_36 : decode prog_11_method_6_code 36 = .ok (.aastore, 1) := dd_at dd_Pr_put 20 rfl
theorem d_Pr_put_37 : decode prog_11_method_6_code 37 = .ok (.aload_n 3, 1) := dd_at dd_Pr_put 21 rfl
theorem d_Pr_put_38 : decode prog_11_method_6_code 38 = .ok (.areturn, 1) := dd_at dd_Pr_put 22 rfl
theorem d_Pr_put_39 : decode prog_11_method_6_code 39 = .ok (.aload_n 0, 1) := dd_at dd_Pr_put 23 rfl
theorem d_Pr_put_40 : decode prog_11_method_6_code 40 = .ok (.getfield 18, 3) := dd_at dd_Pr_put 24 rfl
theorem d_Pr_put_43 : decode prog_11_method_6_code 43 = .ok (.aload_n 0, 1) := dd_at dd_Pr_put 25 rfl
theorem d_Pr_put_44 : decode prog_11_method_6_code 44 = .ok (.getfield 11, 3) := dd_at dd_Pr_put 26 rfl
theorem d_Pr_put_47 : decode prog_11_method_6_code 47 = .ok (.arraylength, 1) := dd_at dd_Pr_put 27 rfl
theorem d_Pr_put_48 : decode prog_11_method_6_code 48 = .ok (.if_icmp .lt (5), 3) := dd_at dd_Pr_put 28 rfl
theorem d_Pr_put_51 : decode prog_11_method_6_code 51 = .ok (.aconst_null, 1) := dd_at dd_Pr_put 29 rfl
theorem d_Pr_put_52 : decode prog_11_method_6_code 52 = .ok (.areturn, 1) := dd_at dd_Pr_put 30 rfl
theorem d_Pr_put_53 : decode prog_11_method_6_code 53 = .ok (.aload_n 0, 1) := dd_at dd_Pr_put 31 rfl
theorem d_Pr_put_54 : decode prog_11_method_6_code 54 = .ok (.getfield 11, 3) := dd_at dd_Pr_put 32 rfl
theorem d_Pr_put_57 : decode prog_11_method_6_code 57 = .ok (.aload_n 0, 1) := dd_at dd_Pr_put 33 rfl
theorem d_Pr_put_58 : decode prog_11_method_6_code 58 = .ok (.getfield 18, 3) := dd_at dd_Pr_put 34 rfl
theorem d_Pr_put_61 : decode prog_11_method_6_code 61 = .ok (.aaload, 1) := dd_at dd_Pr_put 35 rfl
theorem d_Pr_put_62 : decode prog_11_method_6_code 62 = .ok (.astore 4, 2) := dd_at dd_Pr_put 36 rfl
theorem d_Pr_put_64 : decode prog_11_method_6_code 64 = .ok (.aload_n 0, 1) := dd_at dd_Pr_put 37 rfl
theorem d_Pr_put_65 : decode prog_11_method_6_code 65 = .ok (.getfield 18, 3) := dd_at dd_Pr_put 38 rfl
theorem d_Pr_put_68 : decode prog_11_method_6_code 68 = .ok (.istore 5, 2) := dd_at dd_Pr_put 39 rfl
theorem d_Pr_put_70 : decode prog_11_method_6_code 70 = .ok (.iload 5, 2) := dd_at dd_Pr_put 40 rfl
theorem d_Pr_put_72 : decode prog_11_method_6_code 72 = .ok (.iload_n 2, 1) := dd_at dd_Pr_put 41 rfl
theorem d_Pr_put_73 : decode prog_11_method_6_code 73 = .ok (.if_icmp .le (25), 3) := dd_at dd_Pr_put 42 rfl
theorem d_Pr_put_76 : decode prog_11_method_6_code 76 = .ok (.aload_n 0, 1) := dd_at dd_Pr_put 43 rfl
theorem d_Pr_put_77 : decode prog_11_method_6_code 77 = .ok (.getfield 11, 3) := dd_at dd_Pr_put 44 rfl
theorem d_Pr_put_80 : decode prog_11_method_6_code 80 = .ok (.iload 5, 2) := dd_at dd_Pr_put 45 rfl
theorem d_Pr_put_82 : decode prog_11_method_6_code 82 = .ok (.aload_n 0, 1) := dd_at dd_Pr_put 46 rfl
theorem d_Pr_put_83 : decode prog_11_method_6_code 83 = .ok (.getfield 11, 3) := dd_at dd_Pr_put 47 rfl
theorem d_Pr_put_86 : decode prog_11_method_6_code 86 = .ok (.iload 5, 2) := dd_at dd_Pr_put 48 rfl
theorem d_Pr_put_88 : decode prog_11_method_6_code 88 = .ok (.iconst 1, 1) := dd_at dd_Pr_put 49 rfl
theorem d_Pr_put_89 : decode prog_11_method_6_code 89 = .ok (.isub, 1) := dd_at dd_Pr_put 50 rfl
theorem d_Pr_put_90 : decode prog_11_method_6_code 90 = .ok (.aaload, 1) := dd_at dd_Pr_put 51 rfl
theorem d_Pr_put_91 : decode prog_11_method_6_code 91 = .ok (.aastore, 1) := dd_at dd_Pr_put 52 rfl
theorem d_Pr_put_92 : decode prog_11_method_6_code 92 = .ok (.iinc 5 (-1), 3) := dd_at dd_Pr_put 53 rfl
theorem d_Pr_put_95 : decode prog_11_method_6_code 95 = .ok (.goto (-25), 3) := dd_at dd_Pr_put 54 rfl
theorem d_Pr_put_98 : decode prog_11_method_6_code 98 = .ok (.aload_n 0, 1) := dd_at dd_Pr_put 55 rfl
theorem d_Pr_put_99 : decode prog_11_method_6_code 99 = .ok (.getfield 11, 3) := dd_at dd_Pr_put 56 rfl
theorem d_Pr_put_102 : decode prog_11_method_6_code 102 = .ok (.iload_n 2, 1) := dd_at dd_Pr_put 57 rfl
theorem d_Pr_put_103 : decode prog_11_method_6_code 103 = .ok (.aload_n 1, 1) := dd_at dd_Pr_put 58 rfl
theorem d_Pr_put_104 : decode prog_11_method_6_code 104 = .ok (.aastore, 1) := dd_at dd_Pr_put 59 rfl
theorem d_Pr_put_105 : decode prog_11_method_6_code 105 = .ok (.aload_n 0, 1) := dd_at dd_Pr_put 60 rfl
theorem d_Pr_put_106 : decode prog_11_method_6_code 106 = .ok (.dup, 1) := dd_at dd_Pr_put 61 rfl
theorem d_Pr_put_107 : decode prog_11_method_6_code 107 = .ok (.getfield 18, 3) := dd_at dd_Pr_put 62 rfl
theorem d_Pr_put_110 : decode prog_11_method_6_code 110 = .ok (.iconst 1, 1) := dd_at dd_Pr_put 63 rfl
theorem d_Pr_put_111 : decode prog_11_method_6_code 111 = .ok (.iadd, 1) := dd_at dd_Pr_put 64 rfl
theorem d_Pr_put_112 : decode prog_11_method_6_code 112 = .ok (.putfield 18, 3) := dd_at dd_Pr_put 65 rfl
theorem d_Pr_put_115 : decode prog_11_method_6_code 115 = .ok (.aload 4, 2) := dd_at dd_Pr_put 66 rfl
theorem d_Pr_put_117 : decode prog_11_method_6_code 117 = .ok (.areturn, 1) := dd_at dd_Pr_put 67 rfl
def ld_Pr_remove : List (Nat × Instr × Nat) := [(0, .aload_n 0, 1), (1, .iload_n 1, 1), (2, .invokevirtual 36, 3), (5, .istore_n 2, 1), (6, .aload_n 0, 1), (7, .iload_n 2, 1), (8, .invokevirtual 22, 3), (11, .astore_n 3, 1), (12, .aload_n 3, 1), (13, .ifnonnull (5), 3), (16, .iconst 0, 1), (17, .ireturn, 1), (18, .iload_n 2, 1), (19, .istore 4, 2), (21, .iload 4, 2), (23, .aload_n 0, 1), (24, .getfield 18, 3), (27, .iconst 1, 1), (28, .isub, 1), (29, .if_icmp .ge (25), 3), (32, .aload_n 0, 1), (33, .getfield 11, 3), (36, .iload 4, 2), (38, .aload_n 0, 1), (39, .getfield 11, 3), (42, .iload 4, 2), (44, .iconst 1, 1), (45, .iadd, 1), (46, .aaload, 1), (47, .aastore, 1), (48, .iinc 4 (1), 3), (51, .goto (-30), 3), (54, .aload_n 0, 1), (55, .dup, 1), (56, .getfield 18, 3), (59, .iconst 1, 1), (60, .isub, 1), (61, .putfield 18, 3), (64, .aload_n 0, 1), (65, .getfield 11, 3), (68, .aload_n 0, 1), (69, .getfield 18, 3), (72, .aload_n 3, 1), (73, .aastore, 1), (74, .iconst 1, 1), (75, .ireturn, 1)]
theorem dd_Pr_remove : (ld_Pr_remove).all (dOK prog_11_method_7_code) = true := by decide +kernel
theorem d_Pr_remove_0 : decode prog_11_method_7_code 0 = .ok (.aload_n 0, 1) := dd_at dd_Pr_remove 0 rfl
theorem d_Pr_remove_1 : decode prog_11_method_7_code 1 = .ok (.iload_n 1, 1) := dd_at dd_Pr_remove 1 rfl
theorem d_Pr_remove_2 : decode prog_11_method_7_code 2 = .ok (.invokevirtual 36, 3) := dd_at dd_Pr_remove 2 rfl
theorem d_Pr_remove_5 : decode prog_11_method_7_code 5 = .ok (.istore_n 2, 1) := dd_at dd_Pr_remove 3 rfl
theorem d_Pr_remove_6 : decode prog_11_method_7_code 6 = .ok (.aload_n 0, 1) := dd_at dd_Pr_remove 4 rfl
theorem d_Pr_remove_7 : decode prog_11_method_7_code 7 = .ok (.iload_n 2, 1) := dd_at dd_Pr_remove 5 rfl
theorem d_Pr_remove_8 : decode prog_11_method_7_code 8 = .ok (.invokevirtual 22, 3) := dd_at dd_Pr_remove 6 rfl
theorem d_Pr_remove_11 : decode prog_11_method_7_code 11 = .ok (.astore_n 3, 1) := dd_at dd_Pr_remove 7 rfl
theorem d_Pr_remove_12 : decode prog_11_method_7_code 12 = .ok (.aload_n 3, 1) := dd_at dd_Pr_remove 8 rfl
theorem d_Pr_remove_13 : decode prog_11_method_7_code 13 = .ok (.ifnonnull (5), 3) := dd_at dd_Pr_remove 9 rfl
theorem d_Pr_remove_16 : decode prog_11_method_7_code 16 = .ok (.iconst 0, 1) := dd_at dd_Pr_remove 10 rfl
theorem d_Pr_remove_17 : decode prog_11_method_7_code 17 = .ok (.ireturn, 1) := dd_at dd_Pr_remove 11 rfl
theorem d_Pr_remove_18 : decode prog_11_method_7_code 18 = .ok (.iload_n 2, 1) := dd_at dd_Pr_remove 12 rfl
theorem d_Pr_remove_19 : decode prog_11_method_7_code 19 = .ok (.istore 4, 2) := dd_at dd_Pr_remove 13 rfl
theorem d_Pr_remove_21 : decode prog_11_method_7_code 21 = .ok (.iload 4, 2) := dd_at dd_Pr_remove 14 rfl
theorem d_Pr_remove_23 : decode prog_11_method_7_code 23 = .ok (.aload_n 0, 1) := dd_at dd_Pr_remove 15 rfl
theorem d_Pr_remove_24 : decode prog_11_method_7_code 24 = .ok (.getfield 18, 3) := dd_at dd_Pr_remove 16 rfl
theorem d_Pr_remove_27 : decode prog_11_method_7_code 27 = .ok (.iconst 1, 1) := dd_at dd_Pr_remove 17 rfl
theorem d_Pr_remove_28 : decode prog_11_method_7_code 28 = .ok (.isub, 1) := dd_at dd_Pr_remove 18 rfl
theorem d_Pr_remove_29 : decode prog_11_method_7_code 29 = .ok (.if_icmp .ge (25), 3) := dd_at dd_Pr_remove 19 rfl
theorem d_Pr_remove_32 : decode prog_11_method_7_code 32 = .ok (.aload_n 0, 1) := dd_at dd_Pr_remove 20 rfl
theorem d_Pr_remove_33 : decode prog_11_method_7_code 33 = .ok (.getfield 11, 3) := dd_at dd_Pr_remove 21 rfl
theorem d_Pr_remove_36 : decode prog_11_method_7_code 36 = .ok (.iload 4, 2) := dd_at dd_Pr_remove 22 rfl
theorem d_Pr_remove_38 : decode prog_11_method_7_code 38 = .ok (.aload_n 0, 1) := dd_at dd_Pr_remove 23 rfl
theorem d_Pr_remove_39 : decode prog_11_method_7_code 39 = .ok (.getfield 11, 3) := dd_at dd_Pr_remove 24 rfl
theorem d_Pr_remove_42 : decode prog_11_method_7_code 42 = .ok (.iload 4, 2) := dd_at dd_Pr_remove 25 rfl
theorem d_Pr_remove_44 : decode prog_11_method_7_code 44 = .ok (.iconst 1, 1) := dd_at dd_Pr_remove 26 rfl
theorem d_Pr_remove_45 : decode prog_11_method_7_code 45 = .ok (.iadd, 1) := dd_at dd_Pr_remove 27 rfl
theorem d_Pr_remove_46 : decode prog_11_method_7_code 46 = .ok (.aaload, 1) := dd_at dd_Pr_remove 28 rfl
theorem d_Pr_remove_47 : decode prog_11_method_7_code 47 = .ok (.aastore, 1) := dd_at dd_Pr_remove 29 rfl
theorem d_Pr_remove_48 : decode prog_11_method_7_code 48 = .ok (.iinc 4 (1), 3) := dd_at dd_Pr_remove 30 rfl
theorem d_Pr_remove_51 : decode prog_11_method_7_code 51 = .ok (.goto (-30), 3) := dd_at dd_Pr_remove 31 rfl
theorem d_Pr_remove_54 : decode prog_11_method_7_code 54 = .ok (.aload_n 0, 1) := dd_at dd_Pr_remove 32 rfl
theorem d_Pr_remove_55 : decode prog_11_method_7_code 55 = .ok (.dup, 1) := dd_at dd_Pr_remove 33 rfl
theorem d_Pr_remove_56 : decode prog_11_method_7_code 56 = .ok (.getfield 18, 3) := dd_at dd_Pr_remove 34 rfl
theorem d_Pr_remove_59 : decode prog_11_method_7_code 59 = .ok (.iconst 1, 1) := dd_at dd_Pr_remove 35 rfl
theorem d_Pr_remove_60 : decode prog_11_method_7_code 60 = .ok (.isub, 1) := dd_at dd_Pr_remove 36 rfl
theorem d_Pr_remove_61 : decode prog_11_method_7_code 61 = .ok (.putfield 18, 3) := dd_at dd_Pr_remove 37 rfl
theorem d_Pr_remove_64 : decode prog_11_method_7_code 64 = .ok (.aload_n 0, 1) := dd_at dd_Pr_remove 38 rfl
theorem d_Pr_remove_65 : decode prog_11_method_7_code 65 = .ok (.getfield 11, 3) := dd_at dd_Pr_remove 39 rfl
theorem d_Pr_remove_68 : decode prog_11_method_7_code 68 = .ok (.aload_n 0, 1) := dd_at dd_Pr_remove 40 rfl
theorem d_Pr_remove_69 : decode prog_11_method_7_code 69 = .ok (.getfield 18, 3) := dd_at dd_Pr_remove 41 rfl
theorem d_Pr_remove_72 : decode prog_11_method_7_code 72 = .ok (.aload_n 3, 1) := dd_at dd_Pr_remove 42 rfl
theorem d_Pr_remove_73 : decode prog_11_method_7_code 73 = .ok (.aastore, 1) := dd_at dd_Pr_remove 43 rfl
theorem d_Pr_remove_74 : decode prog_11_method_7_code 74 = .ok (.iconst 1, 1) := dd_at dd_Pr_remove 44 rfl
theorem d_Pr_remove_75 : decode prog_11_method_7_code 75 = .ok (.ireturn, 1) := dd_at dd_Pr_remove 45 rfl
def ld_Ca_clear : List (Nat × Instr × Nat) := [(0, .aload_n 0, 1), (1, .getstatic 9, 3), (4, .putfield 15, 3), (7, .aload_n 0, 1), (8, .iconst 0, 1), (9, .putfield 49, 3), (12, .iconst 0, 1), (13, .istore_n 1, 1), (14, .iload_n 1, 1), (15, .aload_n 0, 1), (16, .getfield 20, 3), (19, .arraylength, 1), (20, .if_icmp .ge (16), 3), (23, .aload_n 0, 1), (24, .getfield 20, 3), (27, .iload_n 1, 1), (28, .dconst 0, 1), (29, .dastore, 1), (30, .iinc 1 (1), 3), (33, .goto (-19), 3), (36, .iconst 0, 1), (37, .istore_n 1, 1), (38, .iload_n 1, 1), (39, .aload_n 0, 1), (40, .getfield 42, 3), (43, .arraylength, 1), (44, .if_icmp .ge (16), 3), (47, .aload_n 0, 1), (48, .getfield 42, 3), (51, .iload_n 1, 1), (52, .aconst_null, 1), (53, .aastore, 1), (54, .iinc 1 (1), 3), (57, .goto (-19), 3), (60, .aload_n 0, 1), (61, .getfield 27, 3), (64, .iconst 0, 1), (65, .iconst 0, 1), (66, .invokevirtual 53, 3), (69, .aload_n 0, 1), (70, .getfield 31, 3), (73, .iconst 0, 1), (74, .iconst 0, 1), (75, .invokevirtual 53, 3), (78, .aload_n 0, 1), (79, .getfield 34, 3), (82, .iconst 0, 1), (83, .iconst 0, 1), (84, .invokevirtual 53, 3), (87, .return_, 1)]
theorem dd_Ca_clear : (ld_Ca_clear).all (dOK prog_3_method_2_code) = true := by decide +kernel
theorem d_Ca_clear_0 : decode prog_3_method_2_code 0 = .ok (.aload_n 0, 1) := dd_at dd_Ca_clear 0 rfl
theorem d_Ca_clear_1 : decode prog_3_method_2_code 1 = .ok (.getstatic 9, 3) := dd_at dd_Ca_clear 1 rfl
theorem d_Ca_clear_4 : decode prog_3_method_2_code 4 = .ok (.putfield 15, 3) := dd_at dd_Ca_clear 2 rfl
theorem d_Ca_clear_7 : decode prog_3_method_2_code 7 = .ok (.aload_n 0, 1) := dd_at dd_Ca_clear 3 rfl
theorem d_Ca_clear_8 : decode prog_3_method_2_code 8 = .ok (.iconst 0, 1) := dd_at dd_Ca_clear 4 rfl
theorem d_Ca_clear_9 : decode prog_3_method_2_code 9 = .ok (.putfield 49, 3) := dd_at dd_Ca_clear 5 rfl
theorem d_Ca_clear_12 : decode prog_3_method_2_code 12 = .ok (.iconst 0, 1) := dd_at dd_Ca_clear 6 rfl
theorem d_Ca_clear_13 : decode prog_3_method_2_code 13 = .ok (.istore_n 1, 1) := dd_at dd_Ca_clear 7 rfl
theorem d_Ca_clear_14 : decode prog_3_method_2_code 14 = .ok (.iload_n 1, 1) := dd_at dd_Ca_clear 8 rfl
theorem d_Ca_clear_15 : decode prog_3_method_2_code 15 = .ok (.aload_n 0, 1) := dd_at dd_Ca_clear 9 rfl
theorem d_Ca_clear_16 : decode prog_3_method_2_code 16 = .ok (.getfield 20, 3) := dd_at dd_Ca_clear 10 rfl
theorem d_Ca_clear_19 : decode prog_3_method_2_code 19 = .ok (.arraylength, 1) := dd_at dd_Ca_clear 11 rfl
theorem d_Ca_clear_20 : decode prog_3_method_2_code 20 = .ok (.if_icmp .ge (16), 3) := dd_at dd_Ca_clear 12 rfl
theorem d_Ca_clear_23 : decode prog_3_method_2_code 23 = .ok (.aload_n 0, 1) := dd_at dd_Ca_clear 13 rfl
theorem d_Ca_clear_24 : decode prog_3_method_2_code 24 = .ok (.getfield 20, 3) := dd_at dd_Ca_clear 14 rfl
theorem d_Ca_clear_27 : decode prog_3_method_2_code 27 = .ok (.iload_n 1, 1) := dd_at dd_Ca_clear 15 rfl
theorem d_Ca_clear_28 : decode prog_3_method_2_code 28 = .ok (.dconst 0, 1) := dd_at dd_Ca_clear 16 rfl
theorem d_Ca_clear_29 : decode prog_3_method_2_code 29 = .ok (.dastore, 1) := dd_at dd_Ca_clear 17 rfl
theorem d_Ca_clear_30 : decode prog_3_method_2_code 30 = .ok (.iinc 1 (1), 3) := dd_at dd_Ca_clear 18 rfl
theorem d_Ca_clear_33 : decode prog_3_method_2_code 33 = .ok (.goto (-19), 3) := dd_at dd_Ca_clear 19 rfl
theorem d_Ca_clear_36 : decode prog_3_method_2_code 36 = .ok (.iconst 0, 1) := dd_at dd_Ca_clear 20 rfl
theorem d_Ca_clear_37 : decode prog_3_method_2_code 37 = .ok (.istore_n 1, 1) := dd_at dd_Ca_clear 21 rfl
theorem d_Ca_clear_38 : decode prog_3_method_2_code 38 = .ok (.iload_n 1, 1) := dd_at dd_Ca_clear 22 rfl
theorem d_Ca_clear_39 : decode prog_3_method_2_code 39 = .ok (.aload_n 0, 1) := dd_at dd_Ca_clear 23 rfl
theorem d_Ca_clear_40 : decode prog_3_method_2_code 40 = .ok (.getfield 42, 3) := dd_at dd_Ca_clear 24 rfl
theorem d_Ca_clear_43 : decode prog_3_method_2_code 43 = .ok (.arraylength, 1) := dd_at dd_Ca_clear 25 rfl
theorem d_Ca_clear_44 : decode prog_3_method_2_code 44 = .ok (.if_icmp .ge (16), 3) := dd_at dd_Ca_clear 26 rfl
theorem d_Ca_clear_47 : decode prog_3_method_2_code 47 = .ok (.aload_n 0, 1) := dd_at dd_Ca_clear 27 rfl
theorem d_Ca_clear_48 : decode prog_3_method_2_code 48 = .ok (.getfield 42, 3) := dd_at dd_Ca_clear 28 rfl
theorem d_Ca_clear_51 : decode prog_3_method_2_code 51 = .ok (.iload_n 1, 1) := dd_at dd_Ca_clear 29 rfl
theorem d_Ca_clear_52 : decode prog_3_method_2_code 52 = .ok (.aconst_null, 1) := dd_at dd_Ca_clear 30 rfl
theorem d_Ca_clear_53 : decode prog_3_method_2_code 53 = .ok (.aastore, 1) := dd_at dd_Ca_clear 31 rfl
theorem d_Ca_clear_54 : decode prog_3_method_2_code 54 = .ok (.iinc 1 (1), 3) := dd_at dd_Ca_clear 32 rfl
theorem d_Ca_clear_57 : decode prog_3_method_2_code 57 = .ok (.goto (-19), 3) := dd_at dd_Ca_clear 33 rfl
theorem d_Ca_clear_60 : decode prog_3_method_2_code 60 = .ok (.aload_n 0, 1) := dd_at dd_Ca_clear 34 rfl
theorem d_Ca_clear_61 : decode prog_3_method_2_code 61 = .ok (.getfield 27, 3) := dd_at dd_Ca_clear 35 rfl
theorem d_Ca_clear_64 : decode prog_3_method_2_code 64 = .ok (.iconst 0, 1) := dd_at dd_Ca_clear 36 rfl
theorem d_Ca_clear_65 : decode prog_3_method_2_code 65 = .ok (.iconst 0, 1) := dd_at dd_Ca_clear 37 rfl
theorem d_Ca_clear_66 : decode prog_3_method_2_code 66 = .ok (.invokevirtual 53, 3) := dd_at dd_Ca_clear 38 rfl
theorem d_Ca_clear_69 : decode prog_3_method_2_code 69 = .ok (.aload_n 0, 1) := dd_at dd_Ca_clear 39 rfl
theorem d_Ca_clear_70 : decode prog_3_method_2_code 70 = .ok (.getfield 31, 3) := dd_at dd_Ca_clear 40 rfl
theorem d_Ca_clear_73 : decode prog_3_method_2_code 73 = .ok (.iconst 0, 1) := dd_at dd_Ca_clear 41 rfl
theorem d_Ca_clear_74 : decode prog_3_method_2_code 74 = .ok (.iconst 0, 1) := dd_at dd_Ca_clear 42 rfl
theorem d_Ca_clear_75 : decode prog_3_method_2_code 75 = .ok (.invokevirtual 53, 3) := dd_at dd_Ca_clear 43 rfl
theorem d_Ca_clear_78 : decode prog_3_method_2_code 78 = .ok (.aload_n 0, 1) := dd_at dd_Ca_clear 44 rfl
theorem d_Ca_clear_79 : decode prog_3_method_2_code 79 = .ok (.getfield 34, 3) := dd_at dd_Ca_clear 45 rfl
theorem d_Ca_clear_82 : decode prog_3_method_2_code 82 = .ok (.iconst 0, 1) := dd_at dd_Ca_clear 46 rfl
theorem d_Ca_clear_83 : decode prog_3_method_2_code 83 = .ok (.iconst 0, 1) := dd_at dd_Ca_clear 47 rfl
theorem d_Ca_clear_84 : decode prog_3_method_2_code 84 = .ok (.invokevirtual 53, 3) := dd_at dd_Ca_clear 48 rfl
theorem d_Ca_clear_87 : decode prog_3_method_2_code 87 = .ok (.return_, 1) := dd_at dd_Ca_clear 49 rfl
def ld_Ca_isFine : List (Nat × Instr × Nat) := [(0, .aload_n 0, 1), (1, .getfield 15, 3), (4, .getstatic 9, 3), (7, .if_acmp .ne (7), 3), (10, .iconst 1, 1), (11, .goto (4), 3), (14, .iconst 0, 1), (15, .ireturn, 1)]
theorem dd_Ca_isFine : (ld_Ca_isFine).all (dOK prog_3_method_3_code) = true := by decide +kernel
theorem d_Ca_isFine_0 : decode prog_3_method_3_code 0 = .ok (.aload_n 0, 1) := dd_at dd_Ca_isFine 0 rfl
theorem d_Ca_isFine_1 : decode prog_3_method_3_code 1 = .ok (.getfield 15, 3) := dd_at dd_Ca_isFine 1 rfl
theorem d_Ca_isFine_4 : decode prog_3_method_3_code 4 = .ok (.getstatic 9, 3) := dd_at dd_Ca_isFine 2 rfl
theorem d_Ca_isFine_7 : decode prog_3_method_3_code 7 = .ok (.if_acmp .ne (7), 3) := dd_at dd_Ca_isFine 3 rfl
theorem d_Ca_isFine_10 : decode prog_3_method_3_code 10 = .ok (.iconst 1, 1) := dd_at dd_Ca_isFine 4 rfl
theorem d_Ca_isFine_11 : decode prog_3_method_3_code 11 = .ok (.goto (4), 3) := dd_at dd_Ca_isFine 5 rfl
theorem d_Ca_isFine_14 : decode prog_3_method_3_code 14 = .ok (.iconst 0, 1) := dd_at dd_Ca_isFine 6 rfl
theorem d_Ca_isFine_15 : decode prog_3_method_3_code 15 = .ok (.ireturn, 1) := dd_at dd_Ca_isFine 7 rfl
def ld_Ca_fail : List (Nat × Instr × Nat) := [(0, .aload_n 0, 1), (1, .aload_n 0, 1), (2, .getfield 15, 3), (5, .getstatic 9, 3), (8, .if_acmp .ne (7), 3), (11, .aload_n 1, 1), (12, .goto (7), 3), (15, .aload_n 0, 1), (16, .getfield 15, 3), (19, .putfield 15, 3), (22, .return_, 1)]
theorem dd_Ca_fail : (ld_Ca_fail).all (dOK prog_3_method_4_code) = true := by decide +kernel
theorem d_Ca_fail_0 : decode prog_3_method_4_code 0 = .ok (.aload_n 0, 1) := dd_at dd_Ca_fail 0 rfl
theorem d_Ca_fail_1 : decode prog_3_method_4_code 1 = .ok (.aload_n 0, 1) := dd_at dd_Ca_fail 1 rfl
theorem d_Ca_fail_2 : decode prog_3_method_4_code 2 = .ok (.getfield 15, 3) := dd_at dd_Ca_fail 2 rfl
theorem d_Ca_fail_5 : decode prog_3_method_4_code 5 = .ok (.getstatic 9, 3) := dd_at dd_Ca_fail 3 rfl
theorem d_Ca_fail_8 : decode prog_3_method_4_code 8 = .ok (.if_acmp .ne (7), 3) := dd_at dd_Ca_fail 4 rfl
theorem d_Ca_fail_11 : decode prog_3_method_4_code 11 = .ok (.aload_n 1, 1) := dd_at dd_Ca_fail 5 rfl
theorem d_Ca_fail_12 : decode prog_3_method_4_code 12 = .ok (.goto (7), 3) := dd_at dd_Ca_fail 6 rfl
theorem d_Ca_fail_15 : decode prog_3_method_4_code 15 = .ok (.aload_n 0, 1) := dd_at dd_Ca_fail 7 rfl
theorem d_Ca_fail_16 : decode prog_3_method_4_code 16 = .ok (.getfield 15, 3) := dd_at dd_Ca_fail 8 rfl
theorem d_Ca_fail_19 : decode prog_3_method_4_code 19 = .ok (.putfield 15, 3) := dd_at dd_Ca_fail 9 rfl
theorem d_Ca_fail_22 : decode prog_3_method_4_code 22 = .ok (.return_, 1) := dd_at dd_Ca_fail 10 rfl
def ld_Ca_get : List (Nat × Instr × Nat) := [(0, .iload_n 1, 1), (1, .ifCond .lt (21), 3), (4, .iload_n 1, 1), (5, .aload_n 0, 1), (6, .getfield 20, 3), (9, .arraylength, 1), (10, .if_icmp .ge (12), 3), (13, .aload_n 0, 1), (14, .getfield 20, 3), (17, .iload_n 1, 1), (18, .daload, 1), (19, .goto (4), 3), (22, .dconst 0, 1), (23, .dreturn, 1)]
theorem dd_Ca_get : (ld_Ca_get).all (dOK prog_3_method_5_code) = true := by decide +kernel
theorem d_Ca_get_0 : decode prog_3_method_5_code 0 = .ok (.iload_n 1, 1) := dd_at dd_Ca_get 0 rfl
theorem d_Ca_get_1 : decode prog_3_method_5_code 1 = .ok (.ifCond .lt (21), 3) := dd_at dd_Ca_get 1 rfl
theorem d_Ca_get_4 : decode prog_3_method_5_code 4 = .ok (.iload_n 1, 1) := dd_at dd_Ca_get 2 rfl
theorem d_Ca_get_5 : decode prog_3_method_5_code 5 = .ok (.aload_n 0, 1) := dd_at dd_Ca_get 3 rfl
theorem d_Ca_get_6 : decode prog_3_method_5_code 6 = .ok (.getfield 20, 3) := dd_at dd_Ca_get 4 rfl
theorem d_Ca_get_9 : decode prog_3_method_5_code 9 = .ok (.arraylength, 1) := dd_at dd_Ca_get 5 rfl
theorem d_Ca_get_10 : decode prog_3_method_5_code 10 = .ok (.if_icmp .ge (12), 3) := dd_at dd_Ca_get 6 rfl
theorem d_Ca_get_13 : decode prog_3_method_5_code 13 = .ok (.aload_n 0, 1) := dd_at dd_Ca_get 7 rfl
theorem d_Ca_get_14 : decode prog_3_method_5_code 14 = .ok (.getfield 20, 3) := dd_at dd_Ca_get 8 rfl
theorem d_Ca_get_17 : decode prog_3_method_5_code 17 = .ok (.iload_n 1, 1) := dd_at dd_Ca_get 9 rfl
theorem d_Ca_get_18 : decode prog_3_method_5_code 18 = .ok (.daload, 1) := dd_at dd_Ca_get 10 rfl
theorem d_Ca_get_19 : decode prog_3_method_5_code 19 = .ok (.goto (4), 3) := dd_at dd_Ca_get 11 rfl
theorem d_Ca_get_22 : decode prog_3_method_5_code 22 = .ok (.dconst 0, 1) := dd_at dd_Ca_get 12 rfl
theorem d_Ca_get_23 : decode prog_3_method_5_code 23 = .ok (.dreturn, 1) := dd_at dd_Ca_get 13 rfl
def ld_Ca_set : List (Nat × Instr × Nat) := [(0, .iload_n 1, 1), (1, .ifCond .lt (19), 3), (4, .iload_n 1, 1), (5, .aload_n 0, 1), (6, .getfield 20, 3), (9, .arraylength, 1), (10, .if_icmp .ge (10), 3), (13, .aload_n 0, 1), (14, .getfield 20, 3), (17, .iload_n 1, 1), (18, .dload_n 2, 1), (19, .dastore, 1), (20, .return_, 1)]
theorem dd_Ca_set : (ld_Ca_set).all (dOK prog_3_method_6_code) = true := by decide +kernel
theorem d_Ca_set_0 : decode prog_3_method_6_code 0 = .ok (.iload_n 1, 1) := dd_at dd_Ca_set 0 rfl
theorem d_Ca_set_1 : decode prog_3_method_6_code 1 = .ok (.ifCond .lt (19), 3) := dd_at dd_Ca_set 1 rfl
theorem d_Ca_set_4 : decode prog_3_method_6_code 4 = .ok (.iload_n 1, 1) := dd_at dd_Ca_set 2 rfl
theorem d_Ca_set_5 : decode prog_3_method_6_code 5 = .ok (.aload_n 0, 1) := dd_at dd_Ca_set 3 rfl
theorem d_Ca_set_6 : decode prog_3_method_6_code 6 = .ok (.getfield 20, 3) := dd_at dd_Ca_set 4 rfl
theorem d_Ca_set_9 : decode prog_3_method_6_code 9 = .ok (.arraylength, 1) := dd_at dd_Ca_set 5 rfl
theorem d_Ca_set_10 : decode prog_3_method_6_code 10 = .ok (.if_icmp .ge (10), 3) := dd_at dd_Ca_set 6 rfl
theorem d_Ca_set_13 : decode prog_3_method_6_code 13 = .ok (.aload_n 0, 1) := dd_at dd_Ca_set 7 rfl
theorem d_Ca_set_14 : decode prog_3_method_6_code 14 = .ok (.getfield 20, 3) := dd_at dd_Ca_set 8 rfl
theorem d_Ca_set_17 : decode prog_3_method_6_code 17 = .ok (.iload_n 1, 1) := dd_at dd_Ca_set 9 rfl
theorem d_Ca_set_18 : decode prog_3_method_6_code 18 = .ok (.dload_n 2, 1) := dd_at dd_Ca_set 10 rfl
theorem d_Ca_set_19 : decode prog_3_method_6_code 19 = .ok (.dastore, 1) := dd_at dd_Ca_set 11 rfl
theorem d_Ca_set_20 : decode prog_3_method_6_code 20 = .ok (.return_, 1) := dd_at dd_Ca_set 12 rfl
def ld_Ca_matrixAt : List (Nat × Instr × Nat) := [(0, .iload_n 1, 1), (1, .ifCond .ne (10), 3), (4, .aload_n 0, 1), (5, .getfield 27, 3), (8, .goto (19), 3), (11, .iload_n 1, 1), (12, .iconst 1, 1), (13, .if_icmp .ne (10), 3), (16, .aload_n 0, 1), (17, .getfield 31, 3), (20, .goto (7), 3), (23, .aload_n 0, 1), (24, .getfield 34, 3), (27, .areturn, 1)]
theorem dd_Ca_matrixAt : (ld_Ca_matrixAt).all (dOK prog_3_method_7_code) = true := by decide +kernel
theorem d_Ca_matrixAt_0 : decode prog_3_method_7_code 0 = .ok (.iload_n 1, 1) := dd_at dd_Ca_matrixAt 0 rfl
theorem d_Ca_matrixAt_1 : decode prog_3_method_7_code 1 = .ok (.ifCond .ne (10), 3) := dd_at dd_Ca_matrixAt 1 rfl
theorem d_Ca_matrixAt_4 : decode prog_3_method_7_code 4 = .ok (.aload_n 0, 1) := dd_at dd_Ca_matrixAt 2 rfl
theorem d_Ca_matrixAt_5 : decode prog_3_method_7_code 5 = .ok (.getfield 27, 3) := dd_at dd_Ca_matrixAt 3 rfl
theorem d_Ca_matrixAt_8 : decode prog_3_method_7_code 8 = .ok (.goto (19), 3) := dd_at dd_Ca_matrixAt 4 rfl
theorem d_Ca_matrixAt_11 : decode prog_3_method_7_code 11 = .ok (.iload_n 1, 1) := dd_at dd_Ca_matrixAt 5 rfl
theorem d_Ca_matrixAt_12 : decode prog_3_method_7_code 12 = .ok (.iconst 1, 1) := dd_at dd_Ca_matrixAt 6 rfl
theorem d_Ca_matrixAt_13 : decode prog_3_method_7_code 13 = .ok (.if_icmp .ne (10), 3) := dd_at dd_Ca_matrixAt 7 rfl
theorem d_Ca_matrixAt_16 : decode prog_3_method_7_code 16 = .ok (.aload_n 0, 1) := dd_at dd_Ca_matrixAt 8 rfl
theorem d_Ca_matrixAt_17 : decode prog_3_method_7_code 17 = .ok (.getfield 31, 3) := dd_at dd_Ca_matrixAt 9 rfl
theorem d_Ca_matrixAt_20 : decode prog_3_method_7_code 20 = .ok (.goto (7), 3) := dd_at dd_Ca_matrixAt 10 rfl
theorem d_Ca_matrixAt_23 : decode prog_3_method_7_code 23 = .ok (.aload_n 0, 1) := dd_at dd_Ca_matrixAt 11 rfl
theorem d_Ca_matrixAt_24 : decode prog_3_method_7_code 24 = .ok (.getfield 34, 3) := dd_at dd_Ca_matrixAt 12 rfl
theorem d_Ca_matrixAt_27 : decode prog_3_method_7_code 27 = .ok (.areturn, 1) := dd_at dd_Ca_matrixAt 13 rfl
def ld_Ca_define : List (Nat × Instr × Nat) := [(0, .iload_n 1, 1), (1, .ifCond .lt (19), 3), (4, .iload_n 1, 1), (5, .aload_n 0, 1), (6, .getfield 42, 3), (9, .arraylength, 1), (10, .if_icmp .ge (10), 3), (13, .aload_n 0, 1), (14, .getfield 42, 3), (17, .iload_n 1, 1), (18, .aload_n 2, 1), (19, .aastore, 1), (20, .return_, 1)]
theorem dd_Ca_define : (ld_Ca_define).all (dOK prog_3_method_8_code) = true := by decide +kernel
theorem d_Ca_define_0 : decode prog_3_method_8_code 0 = .ok (.iload_n 1, 1) := dd_at dd_Ca_define 0 rfl
theorem d_Ca_define_1 : decode prog_3_method_8_code 1 = .ok (.ifCond .lt (19), 3) := dd_at dd_Ca_define 1 rfl
theorem d_Ca_define_4 : decode prog_3_method_8_code 4 = .ok (.iload_n 1, 1) := dd_at dd_Ca_define 2 rfl
theorem d_Ca_define_5 : decode prog_3_method_8_code 5 = .ok (.aload_n 0, 1) := dd_at dd_Ca_define 3 rfl
theorem d_Ca_define_6 : decode prog_3_method_8_code 6 = .ok (.getfield 42, 3) := dd_at dd_Ca_define 4 rfl
theorem d_Ca_define_9 : decode prog_3_method_8_code 9 = .ok (.arraylength, 1) := dd_at dd_Ca_define 5 rfl
theorem d_Ca_define_10 : decode prog_3_method_8_code 10 = .ok (.if_icmp .ge (10), 3) := dd_at dd_Ca_define 6 rfl
theorem d_Ca_define_13 : decode prog_3_method_8_code 13 = .ok (.aload_n 0, 1) := dd_at dd_Ca_define 7 rfl
theorem d_Ca_define_14 : decode prog_3_method_8_code 14 = .ok (.getfield 42, 3) := dd_at dd_Ca_define 8 rfl
theorem d_Ca_define_17 : decode prog_3_method_8_code 17 = .ok (.iload_n 1, 1) := dd_at dd_Ca_define 9 rfl
theorem d_Ca_define_18 : decode prog_3_method_8_code 18 = .ok (.aload_n 2, 1) := dd_at dd_Ca_define 10 rfl
theorem d_Ca_define_19 : decode prog_3_method_8_code 19 = .ok (.aastore, 1) := dd_at dd_Ca_define 11 rfl
theorem d_Ca_define_20 : decode prog_3_method_8_code 20 = .ok (.return_, 1) := dd_at dd_Ca_define 12 rfl
def ld_Ca_functionAt : List (Nat × Instr × Nat) := [(0, .iload_n 1, 1), (1, .ifCond .lt (21), 3), (4, .iload_n 1, 1), (5, .aload_n 0, 1), (6, .getfield 42, 3), (9, .arraylength, 1), (10, .if_icmp .ge (12), 3), (13, .aload_n 0, 1), (14, .getfield 42, 3), (17, .iload_n 1, 1), (18, .aaload, 1), (19, .goto (4), 3), (22, .aconst_null, 1), (23, .areturn, 1)]
theorem dd_Ca_functionAt : (ld_Ca_functionAt).all (dOK prog_3_method_9_code) = true := by decide +kernel
theorem d_Ca_functionAt_0 : decode prog_3_method_9_code 0 = .ok (.iload_n 1, 1) := dd_at dd_Ca_functionAt 0 rfl
theorem d_Ca_functionAt_1 : decode prog_3_method_9_code 1 = .ok (.ifCond .lt (21), 3) := dd_at dd_Ca_functionAt 1 rfl
theorem d_Ca_functionAt_4 : decode prog_3_method_9_code 4 = .ok (.iload_n 1, 1) := dd_at dd_Ca_functionAt 2 rfl
theorem d_Ca_functionAt_5 : decode prog_3_method_9_code 5 = .ok (.aload_n 0, 1) := dd_at dd_Ca_functionAt 3 rfl
theorem d_Ca_functionAt_6 : decode prog_3_method_9_code 6 = .ok (.getfield 42, 3) := dd_at dd_Ca_functionAt 4 rfl
theorem d_Ca_functionAt_9 : decode prog_3_method_9_code 9 = .ok (.arraylength, 1) := dd_at dd_Ca_functionAt 5 rfl
theorem d_Ca_functionAt_10 : decode prog_3_method_9_code 10 = .ok (.if_icmp .ge (12), 3) := dd_at dd_Ca_functionAt 6 rfl
theorem d_Ca_functionAt_13 : decode prog_3_method_9_code 13 = .ok (.aload_n 0, 1) := dd_at dd_Ca_functionAt 7 rfl
theorem d_Ca_functionAt_14 : decode prog_3_method_9_code 14 = .ok (.getfield 42, 3) := dd_at dd_Ca_functionAt 8 rfl
theorem d_Ca_functionAt_17 : decode prog_3_method_9_code 17 = .ok (.iload_n 1, 1) := dd_at dd_Ca_functionAt 9 rfl
theorem d_Ca_functionAt_18 : decode prog_3_method_9_code 18 = .ok (.aaload, 1) := dd_at dd_Ca_functionAt 10 rfl
theorem d_Ca_functionAt_19 : decode prog_3_method_9_code 19 = .ok (.goto (4), 3) := dd_at dd_Ca_functionAt 11 rfl
theorem d_Ca_functionAt_22 : decode prog_3_method_9_code 22 = .ok (.aconst_null, 1) := dd_at dd_Ca_functionAt 12 rfl
theorem d_Ca_functionAt_23 : decode prog_3_method_9_code 23 = .ok (.areturn, 1) := dd_at dd_Ca_functionAt 13 rfl
def ld_Ca_push : List (Nat × Instr × Nat) := [(0, .aload_n 0, 1), (1, .getfield 49, 3), (4, .aload_n 0, 1), (5, .getfield 46, 3), (8, .arraylength, 1), (9, .if_icmp .ge (23), 3), (12, .aload_n 0, 1), (13, .getfield 46, 3), (16, .aload_n 0, 1), (17, .getfield 49, 3), (20, .dload_n 1, 1), (21, .dastore, 1), (22, .aload_n 0, 1), (23, .dup, 1), (24, .getfield 49, 3), (27, .iconst 1, 1), (28, .iadd, 1), (29, .putfield 49, 3), (32, .return_, 1)]
theorem dd_Ca_push : (ld_Ca_push).all (dOK prog_3_method_10_code) = true := by decide +kernel
theorem d_Ca_push_0 : decode prog_3_method_10_code 0 = .ok (.aload_n 0, 1) := dd_at dd_Ca_push 0 rfl
theorem d_Ca_push_1 : decode prog_3_method_10_code 1 = .ok (.getfield 49, 3) := dd_at dd_Ca_push 1 rfl
theorem d_Ca_push_4 : decode prog_3_method_10_code 4 = .ok (.aload_n 0, 1) := dd_at dd_Ca_push 2 rfl
theorem d_Ca_push_5 : decode prog_3_method_10_code 5 = .ok (.getfield 46, 3) := dd_at dd_Ca_push 3 rfl
theorem d_Ca_push_8 : decode prog_3_method_10_code 8 = .ok (.arraylength, 1) := dd_at dd_Ca_push 4 rfl
theorem d_Ca_push_9 : decode prog_3_method_10_code 9 = .ok (.if_icmp .ge (23), 3) := dd_at dd_Ca_push 5 rfl
theorem d_Ca_push_12 : decode prog_3_method_10_code 12 = .ok (.aload_n 0, 1) := dd_at dd_Ca_push 6 rfl
theorem d_Ca_push_13 : decode prog_3_method_10_code 13 = .ok (.getfield 46, 3) := dd_at dd_Ca_push 7 rfl
theorem d_Ca_push_16 : decode prog_3_method_10_code 16 = .ok (.aload_n 0, 1) := dd_at dd_Ca_push 8 rfl
theorem d_Ca_push_17 : decode prog_3_method_10_code 17 = .ok (.getfield 49, 3) := dd_at dd_Ca_push 9 rfl
theorem d_Ca_push_20 : decode prog_3_method_10_code 20 = .ok (.dload_n 1, 1) := dd_at dd_Ca_push 10 rfl
theorem d_Ca_push_21 : decode prog_3_method_10_code 21 = .ok (.dastore, 1) := dd_at dd_Ca_push 11 rfl
theorem d_Ca_push_22 : decode prog_3_method_10_code 22 = .ok (.aload_n 0, 1) := dd_at dd_Ca_push 12 rfl
theorem d_Ca_push_23 : decode prog_3_method_10_code 23 = .ok (.dup, 1) := dd_at dd_Ca_push 13 rfl
theorem d_Ca_push_24 : decode prog_3_method_10_code 24 = .ok (.getfield 49, 3) := dd_at dd_Ca_push 14 rfl
theorem d_Ca_push_27 : decode prog_3_method_10_code 27 = .ok (.iconst 1, 1) := dd_at dd_Ca_push 15 rfl
theorem d_Ca_push_28 : decode prog_3_method_10_code 28 = .ok (.iadd, 1) := dd_at dd_Ca_push 16 rfl
theorem d_Ca_push_29 : decode prog_3_method_10_code 29 = .ok (.putfield 49, 3) := dd_at dd_Ca_push 17 rfl
theorem d_Ca_push_32 : decode prog_3_method_10_code 32 = .ok (.return_, 1) := dd_at dd_Ca_push 18 rfl
def ld_Ca_pop : List (Nat × Instr × Nat) := [(0, .aload_n 0, 1), (1, .getfield 49, 3), (4, .ifCond .gt (5), 3), (7, .dconst 0, 1), (8, .dreturn, 1), (9, .aload_n 0, 1), (10, .dup, 1), (11, .getfield 49, 3), (14, .iconst 1, 1), (15, .isub, 1), (16, .putfield 49, 3), (19, .aload_n 0, 1), (20, .getfield 46, 3), (23, .aload_n 0, 1), (24, .getfield 49, 3), (27, .daload, 1), (28, .dreturn, 1)]
theorem dd_Ca_pop : (ld_Ca_pop).all (dOK prog_3_method_11_code) = true := by decide +kernel
theorem d_Ca_pop_0 : decode prog_3_method_11_code 0 = .ok (.aload_n 0, 1) := dd_at dd_Ca_pop 0 rfl
theorem d_Ca_pop_1 : decode prog_3_method_11_code 1 = .ok (.getfield 49, 3) := dd_at dd_Ca_pop 1 rfl
theorem d_Ca_pop_4 : decode prog_3_method_11_code 4 = .ok (.ifCond .gt (5), 3) := dd_at dd_Ca_pop 2 rfl
theorem d_Ca_pop_7 : decode prog_3_method_11_code 7 = .ok (.dconst 0, 1) := dd_at dd_Ca_pop 3 rfl
theorem d_Ca_pop_8 : decode prog_3_method_11_code 8 = .ok (.dreturn, 1) := dd_at dd_Ca_pop 4 rfl
theorem d_Ca_pop_9 : decode prog_3_method_11_code 9 = .ok (.aload_n 0, 1) := dd_at dd_Ca_pop 5 rfl
theorem d_Ca_pop_10 : decode prog_3_method_11_code 10 = .ok (.dup, 1) := dd_at dd_Ca_pop 6 rfl
theorem d_Ca_pop_11 : decode prog_3_method_11_code 11 = .ok (.getfield 49, 3) := dd_at dd_Ca_pop 7 rfl
theorem d_Ca_pop_14 : decode prog_3_method_11_code 14 = .ok (.iconst 1, 1) := dd_at dd_Ca_pop 8 rfl
theorem d_Ca_pop_15 : decode prog_3_method_11_code 15 = .ok (.isub, 1) := dd_at dd_Ca_pop 9 rfl
theorem d_Ca_pop_16 : decode prog_3_method_11_code 16 = .ok (.putfield 49, 3) := dd_at dd_Ca_pop 10 rfl
theorem d_Ca_pop_19 : decode prog_3_method_11_code 19 = .ok (.aload_n 0, 1) := dd_at dd_Ca_pop 11 rfl
theorem d_Ca_pop_20 : decode prog_3_method_11_code 20 = .ok (.getfield 46, 3) := dd_at dd_Ca_pop 12 rfl
theorem d_Ca_pop_23 : decode prog_3_method_11_code 23 = .ok (.aload_n 0, 1) := dd_at dd_Ca_pop 13 rfl
theorem d_Ca_pop_24 : decode prog_3_method_11_code 24 = .ok (.getfield 49, 3) := dd_at dd_Ca_pop 14 rfl
theorem d_Ca_pop_27 : decode prog_3_method_11_code 27 = .ok (.daload, 1) := dd_at dd_Ca_pop 15 rfl
theorem d_Ca_pop_28 : decode prog_3_method_11_code 28 = .ok (.dreturn, 1) := dd_at dd_Ca_pop 16 rfl
def ld_Ca_result : List (Nat × Instr × Nat) := [(0, .dload_n 1, 1), (1, .ldc2_w 57, 3), (4, .dcmp .l, 1), (5, .ifCond .gt (11), 3), (8, .dload_n 1, 1), (9, .ldc2_w 59, 3), (12, .dcmp .g, 1), (13, .ifCond .ge (29), 3), (16, .aload_n 0, 1), (17, .aload_n 0, 1), (18, .getfield 15, 3), (21, .getstatic 9, 3), (24, .if_acmp .ne (9), 3), (27, .getstatic 61, 3), (30, .goto (7), 3), (33, .aload_n 0, 1), (34, .getfield 15, 3), (37, .putfield 15, 3), (40, .dconst 0, 1), (41, .dreturn, 1), (42, .dload_n 1, 1), (43, .dreturn, 1)]
theorem dd_Ca_result : (ld_Ca_result).all (dOK prog_3_method_12_code) = true := by decide +kernel
theorem d_Ca_result_0 : decode prog_3_method_12_code 0 = .ok (.dload_n 1, 1) := dd_at dd_Ca_result 0 rfl
theorem d_Ca_result_1 : decode prog_3_method_12_code 1 = .ok (.ldc2_w 57, 3) := dd_at dd_Ca_result 1 rfl
theorem d_Ca_result_4 : decode prog_3_method_12_code 4 = .ok (.dcmp .l, 1) := dd_at dd_Ca_result 2 rfl
theorem d_Ca_result_5 : decode prog_3_method_12_code 5 = .ok (.ifCond .gt (11), 3) := dd_at dd_Ca_result 3 rfl
theorem d_Ca_result_8 : decode prog_3_method_12_code 8 = .ok (.dload_n 1, 1) := dd_at dd_Ca_result 4 rfl
theorem d_Ca_result_9 : decode prog_3_method_12_code 9 = .ok (.ldc2_w 59, 3) := dd_at dd_Ca_result 5 rfl
theorem d_Ca_result_12 : decode prog_3_method_12_code 12 = .ok (.dcmp .g, 1) := dd_at dd_Ca_result 6 rfl
theorem d_Ca_result_13 : decode prog_3_method_12_code 13 = .ok (.ifCond .ge (29), 3) := dd_at dd_Ca_result 7 rfl
theorem d_Ca_result_16 : decode prog_3_method_12_code 16 = .ok (.aload_n 0, 1) := dd_at dd_Ca_result 8 rfl
theorem d_Ca_result_17 : decode prog_3_method_12_code 17 = .ok (.aload_n 0, 1) := dd_at dd_Ca_result 9 rfl
theorem d_Ca_result_18 : decode prog_3_method_12_code 18 = .ok (.getfield 15, 3) := dd_at dd_Ca_result 10 rfl
theorem d_Ca_result_21 : decode prog_3_method_12_code 21 = .ok (.getstatic 9, 3) := dd_at dd_Ca_result 11 rfl
theorem d_Ca_result_24 : decode prog_3_method_12_code 24 = .ok (.if_acmp .ne (9), 3) := dd_at dd_Ca_result 12 rfl
theorem d_Ca_result_27 : decode prog_3_method_12_code 27 = .ok (.getstatic 61, 3) := dd_at dd_Ca_result 13 rfl
theorem d_Ca_result_30 : decode prog_3_method_12_code 30 = .ok (.goto (7), 3) := dd_at dd_Ca_result 14 rfl
theorem d_Ca_result_33 : decode prog_3_method_12_code 33 = .ok (.aload_n 0, 1) := dd_at dd_Ca_result 15 rfl
theorem d_Ca_result_34 : decode prog_3_method_12_code 34 = .ok (.getfield 15, 3) := dd_at dd_Ca_result 16 rfl
theorem d_Ca_result_37 : decode prog_3_method_12_code 37 = .ok (.putfield 15, 3) := dd_at dd_Ca_result 17 rfl
theorem d_Ca_result_40 : decode prog_3_method_12_code 40 = .ok (.dconst 0, 1) := dd_at dd_Ca_result 18 rfl
theorem d_Ca_result_41 : decode prog_3_method_12_code 41 = .ok (.dreturn, 1) := dd_at dd_Ca_result 19 rfl
theorem d_Ca_result_42 : decode prog_3_method_12_code 42 = .ok (.dload_n 1, 1) := dd_at dd_Ca_result 20 rfl
theorem d_Ca_result_43 : decode prog_3_method_12_code 43 = .ok (.dreturn, 1) := dd_at dd_Ca_result 21 rfl
def ld_Ca_quotient : List (Nat × Instr × Nat) := [(0, .dload_n 3, 1), (1, .dconst 0, 1), (2, .dcmp .l, 1), (3, .ifCond .ne (12), 3), (6, .aload_n 0, 1), (7, .getstatic 61, 3), (10, .invokevirtual 150, 3), (13, .dconst 0, 1), (14, .dreturn, 1), (15, .aload_n 0, 1), (16, .dload_n 1, 1), (17, .dload_n 3, 1), (18, .ddiv, 1), (19, .invokevirtual 140, 3), (22, .dreturn, 1)]
theorem dd_Ca_quotient : (ld_Ca_quotient).all (dOK prog_3_method_16_code) = true := by decide +kernel
theorem d_Ca_quotient_0 : decode prog_3_method_16_code 0 = .ok (.dload_n 3, 1) := dd_at dd_Ca_quotient 0 rfl
theorem d_Ca_quotient_1 : decode prog_3_method_16_code 1 = .ok (.dconst 0, 1) := dd_at dd_Ca_quotient 1 rfl
theorem d_Ca_quotient_2 : decode prog_3_method_16_code 2 = .ok (.dcmp .l, 1) := dd_at dd_Ca_quotient 2 rfl
theorem d_Ca_quotient_3 : decode prog_3_method_16_code 3 = .ok (.ifCond .ne (12), 3) := dd_at dd_Ca_quotient 3 rfl
theorem d_Ca_quotient_6 : decode prog_3_method_16_code 6 = .ok (.aload_n 0, 1) := dd_at dd_Ca_quotient 4 rfl
theorem d_Ca_quotient_7 : decode prog_3_method_16_code 7 = .ok (.getstatic 61, 3) := dd_at dd_Ca_quotient 5 rfl
theorem d_Ca_quotient_10 : decode prog_3_method_16_code 10 = .ok (.invokevirtual 150, 3) := dd_at dd_Ca_quotient 6 rfl
theorem d_Ca_quotient_13 : decode prog_3_method_16_code 13 = .ok (.dconst 0, 1) := dd_at dd_Ca_quotient 7 rfl
theorem d_Ca_quotient_14 : decode prog_3_method_16_code 14 = .ok (.dreturn, 1) := dd_at dd_Ca_quotient 8 rfl
theorem d_Ca_quotient_15 : decode prog_3_method_16_code 15 = .ok (.aload_n 0, 1) := dd_at dd_Ca_quotient 9 rfl
theorem d_Ca_quotient_16 : decode prog_3_method_16_code 16 = .ok (.dload_n 1, 1) := dd_at dd_Ca_quotient 10 rfl
theorem d_Ca_quotient_17 : decode prog_3_method_16_code 17 = .ok (.dload_n 3, 1) := dd_at dd_Ca_quotient 11 rfl
theorem d_Ca_quotient_18 : decode prog_3_method_16_code 18 = .ok (.ddiv, 1) := dd_at dd_Ca_quotient 12 rfl
theorem d_Ca_quotient_19 : decode prog_3_method_16_code 19 = .ok (.invokevirtual 140, 3) := dd_at dd_Ca_quotient 13 rfl
theorem d_Ca_quotient_22 : decode prog_3_method_16_code 22 = .ok (.dreturn, 1) := dd_at dd_Ca_quotient 14 rfl
def ld_Ca_power : List (Nat × Instr × Nat) := [(0, .dload_n 3, 1), (1, .ldc2_w 154, 3), (4, .dcmp .g, 1), (5, .ifCond .lt (19), 3), (8, .dload_n 3, 1), (9, .ldc2_w 156, 3), (12, .dcmp .l, 1), (13, .ifCond .gt (11), 3), (16, .dload_n 3, 1), (17, .d2i, 1), (18, .i2d, 1), (19, .dload_n 3, 1), (20, .dcmp .l, 1), (21, .ifCond .eq (12), 3), (24, .aload_n 0, 1), (25, .getstatic 61, 3), (28, .invokevirtual 150, 3), (31, .dconst 0, 1), (32, .dreturn, 1), (33, .dload_n 3, 1), (34, .d2i, 1), (35, .invokestatic 158, 3), (38, .istore 5, 2), (40, .dconst 1, 1), (41, .dstore 6, 2), (43, .iconst 0, 1), (44, .istore 8, 2), (46, .iload 8, 2), (48, .iload 5, 2), (50, .if_icmp .ge (19), 3), (53, .aload_n 0, 1), (54, .dload 6, 2), (56, .dload_n 1, 1), (57, .dmul, 1), (58, .invokevirtual 140, 3), (61, .dstore 6, 2), (63, .iinc 8 (1), 3), (66, .goto (-20), 3), (69, .dload_n 3, 1), (70, .dconst 0, 1), (71, .dcmp .g, 1), (72, .ifCond .ge (19), 3), (75, .dload 6, 2), (77, .dconst 0, 1), (78, .dcmp .l, 1), (79, .ifCond .ne (12), 3), (82, .aload_n 0, 1), (83, .getstatic 61, 3), (86, .invokevirtual 150, 3), (89, .dconst 0, 1), (90, .dreturn, 1), (91, .dload_n 3, 1), (92, .dconst 0, 1), (93, .dcmp .g, 1), (94, .ifCond .ge (14), 3), (97, .aload_n 0, 1), (98, .dconst 1, 1), (99, .dload 6, 2), (101, .ddiv, 1), (102, .invokevirtual 140, 3), (105, .goto (5), 3), (108, .dload 6, 2), (110, .dreturn, 1)]
theorem dd_Ca_power : (ld_Ca_power).all (dOK prog_3_method_17_code) = true := by decide +kernel
theorem d_Ca_power_0 : decode prog_3_method_17_code 0 = .ok (.dload_n 3, 1) := dd_at dd_Ca_power 0 rfl
theorem d_Ca_power_1 : decode prog_3_method_17_code 1 = .ok (.ldc2_w 154, 3) := dd_at dd_Ca_power 1 rfl
theorem d_Ca_power_4 : decode prog_3_method_17_code 4 = .ok (.dcmp .g, 1) := dd_at dd_Ca_power 2 rfl
theorem d_Ca_power_5 : decode prog_3_method_17_code 5 = .ok (.ifCond .lt (19), 3) := dd_at dd_Ca_power 3 rfl
theorem d_Ca_power_8 : decode prog_3_method_17_code 8 = .ok (.dload_n 3, 1) := dd_at dd_Ca_power 4 rfl
theorem d_Ca_power_9 : decode prog_3_method_17_code 9 = .ok (.ldc2_w 156, 3) := dd_at dd_Ca_power 5 rfl
theorem d_Ca_power_12 : decode prog_3_method_17_code 12 = .ok (.dcmp .l, 1) := dd_at dd_Ca_power 6 rfl
theorem d_Ca_power_13 : decode prog_3_method_17_code 13 = .ok (.ifCond .gt (11), 3) := dd_at dd_Ca_power 7 rfl
theorem d_Ca_power_16 : decode prog_3_method_17_code 16 = .ok (.dload_n 3, 1) := dd_at dd_Ca_power 8 rfl
theorem d_Ca_power_17 : decode prog_3_method_17_code 17 = .ok (.d2i, 1) := dd_at dd_Ca_power 9 rfl
theorem d_Ca_power_18 : decode prog_3_method_17_code 18 = .ok (.i2d, 1) := dd_at dd_Ca_power 10 rfl
theorem d_Ca_power_19 : decode prog_3_method_17_code 19 = .ok (.dload_n 3, 1) := dd_at dd_Ca_power 11 rfl
theorem d_Ca_power_20 : decode prog_3_method_17_code 20 = .ok (.dcmp .l, 1) := dd_at dd_Ca_power 12 rfl
theorem d_Ca_power_21 : decode prog_3_method_17_code 21 = .ok (.ifCond .eq (12), 3) := dd_at dd_Ca_power 13 rfl
theorem d_Ca_power_24 : decode prog_3_method_17_code 24 = .ok (.aload_n 0, 1) := dd_at dd_Ca_power 14 rfl
theorem d_Ca_power_25 : decode prog_3_method_17_code 25 = .ok (.getstatic 61, 3) := dd_at dd_Ca_power 15 rfl
theorem d_Ca_power_28 : decode prog_3_method_17_code 28 = .ok (.invokevirtual 150, 3) := dd_at dd_Ca_power 16 rfl
theorem d_Ca_power_31 : decode prog_3_method_17_code 31 = .ok (.dconst 0, 1) := dd_at dd_Ca_power 17 rfl
theorem d_Ca_power_32 : decode prog_3_method_17_code 32 = .ok (.dreturn, 1) := dd_at dd_Ca_power 18 rfl
theorem d_Ca_power_33 : decode prog_3_method_17_code 33 = .ok (.dload_n 3, 1) := dd_at dd_Ca_power 19 rfl
theorem d_Ca_power_34 : decode prog_3_method_17_code 34 = .ok (.d2i, 1) := dd_at dd_Ca_power 20 rfl
theorem d_Ca_power_35 : decode prog_3_method_17_code 35 = .ok (.invokestatic 158, 3) := dd_at dd_Ca_power 21 rfl
theorem d_Ca_power_38 : decode prog_3_method_17_code 38 = .ok (.istore 5, 2) := dd_at dd_Ca_power 22 rfl
theorem d_Ca_power_40 : decode prog_3_method_17_code 40 = .ok (.dconst 1, 1) := dd_at dd_Ca_power 23 rfl
theorem d_Ca_power_41 : decode prog_3_method_17_code 41 = .ok (.dstore 6, 2) := dd_at dd_Ca_power 24 rfl
theorem d_Ca_power_43 : decode prog_3_method_17_code 43 = .ok (.iconst 0, 1) := dd_at dd_Ca_power 25 rfl
theorem d_Ca_power_44 : decode prog_3_method_17_code 44 = .ok (.istore 8, 2) := dd_at dd_Ca_power 26 rfl
theorem d_Ca_power_46 : decode prog_3_method_17_code 46 = .ok (.iload 8, 2) := dd_at dd_Ca_power 27 rfl
theorem d_Ca_power_48 : decode prog_3_method_17_code 48 = .ok (.iload 5, 2) := dd_at dd_Ca_power 28 rfl
theorem d_Ca_power_50 : decode prog_3_method_17_code 50 = .ok (.if_icmp .ge (19), 3) := dd_at dd_Ca_power 29 rfl
theorem d_Ca_power_53 : decode prog_3_method_17_code 53 = .ok (.aload_n 0, 1) := dd_at dd_Ca_power 30 rfl
theorem d_Ca_power_54 : decode prog_3_method_17_code 54 = .ok (.dload 6, 2) := dd_at dd_Ca_power 31 rfl
theorem d_Ca_power_56 : decode prog_3_method_17_code 56 = .ok (.dload_n 1, 1) := dd_at dd_Ca_power 32 rfl
theorem d_Ca_power_57 : decode prog_3_method_17_code 57 = .ok (.dmul, 1) := dd_at dd_Ca_power 33 rfl
theorem d_Ca_power_58 : decode prog_3_method_17_code 58 = .ok (.invokevirtual 140, 3) := dd_at dd_Ca_power 34 rfl
theorem d_Ca_power_61 : decode prog_3_method_17_code 61 = .ok (.dstore 6, 2) := dd_at dd_Ca_power 35 rfl
theorem d_Ca_power_63 : decode prog_3_method_17_code 63 = .ok (.iinc 8 (1), 3) := dd_at dd_Ca_power 36 rfl
theorem d_Ca_power_66 : decode prog_3_method_17_code 66 = .ok (.goto (-20), 3) := dd_at dd_Ca_power 37 rfl
theorem d_Ca_power_69 : decode prog_3_method_17_code 69 = .ok (.dload_n 3, 1) := dd_at dd_Ca_power 38 rfl
theorem d_Ca_power_70 : decode prog_3_method_17_code 70 = .ok (.dconst 0, 1) := dd_at dd_Ca_power 39 rfl
theorem d_Ca_power_71 : decode prog_3_method_17_code 71 = .ok (.dcmp .g, 1) := dd_at dd_Ca_power 40 rfl
theorem d_Ca_power_72 : decode prog_3_method_17_code 72 = .ok (.ifCond .ge (19), 3) := dd_at dd_Ca_power 41 rfl
theorem d_Ca_power_75 : decode prog_3_method_17_code 75 = .ok (.dload 6, 2) := dd_at dd_Ca_power 42 rfl
theorem d_Ca_power_77 : decode prog_3_method_17_code 77 = .ok (.dconst 0, 1) := dd_at dd_Ca_power 43 rfl
theorem d_Ca_power_78 : decode prog_3_method_17_code 78 = .ok (.dcmp .l, 1) := dd_at dd_Ca_power 44 rfl
theorem d_Ca_power_79 : decode prog_3_method_17_code 79 = .ok (.ifCond .ne (12), 3) := dd_at dd_Ca_power 45 rfl
theorem d_Ca_power_82 : decode prog_3_method_17_code 82 = .ok (.aload_n 0, 1) := dd_at dd_Ca_power 46 rfl
theorem d_Ca_power_83 : decode prog_3_method_17_code 83 = .ok (.getstatic 61, 3) := dd_at dd_Ca_power 47 rfl
theorem d_Ca_power_86 : decode prog_3_method_17_code 86 = .ok (.invokevirtual 150, 3) := dd_at dd_Ca_power 48 rfl
theorem d_Ca_power_89 : decode prog_3_method_17_code 89 = .ok (.dconst 0, 1) := dd_at dd_Ca_power 49 rfl
theorem d_Ca_power_90 : decode prog_3_method_17_code 90 = .ok (.dreturn, 1) := dd_at dd_Ca_power 50 rfl
theorem d_Ca_power_91 : decode prog_3_method_17_code 91 = .ok (.dload_n 3, 1) := dd_at dd_Ca_power 51 rfl
theorem d_Ca_power_92 : decode prog_3_method_17_code 92 = .ok (.dconst 0, 1) := dd_at dd_Ca_power 52 rfl
theorem d_Ca_power_93 : decode prog_3_method_17_code 93 = .ok (.dcmp .g, 1) := dd_at dd_Ca_power 53 rfl
theorem d_Ca_power_94 : decode prog_3_method_17_code 94 = .ok (.ifCond .ge (14), 3) := dd_at dd_Ca_power 54 rfl
theorem d_Ca_power_97 : decode prog_3_method_17_code 97 = .ok (.aload_n 0, 1) := dd_at dd_Ca_power 55 rfl
theorem d_Ca_power_98 : decode prog_3_method_17_code 98 = .ok (.dconst 1, 1) := dd_at dd_Ca_power 56 rfl
theorem d_Ca_power_99 : decode prog_3_method_17_code 99 = .ok (.dload 6, 2) := dd_at dd_Ca_power 57 rfl
theorem d_Ca_power_101 : decode prog_3_method_17_code 101 = .ok (.ddiv, 1) := dd_at dd_Ca_power 58 rfl
theorem d_Ca_power_102 : decode prog_3_method_17_code 102 = .ok (.invokevirtual 140, 3) := dd_at dd_Ca_power 59 rfl
theorem d_Ca_power_105 : decode prog_3_method_17_code 105 = .ok (.goto (5), 3) := dd_at dd_Ca_power 60 rfl
theorem d_Ca_power_108 : decode prog_3_method_17_code 108 = .ok (.dload 6, 2) := dd_at dd_Ca_power 61 rfl
theorem d_Ca_power_110 : decode prog_3_method_17_code 110 = .ok (.dreturn, 1) := dd_at dd_Ca_power 62 rfl
def ld_Ca_sizeOf : List (Nat × Instr × Nat) := [(0, .dload_n 0, 1), (1, .dconst 0, 1), (2, .dcmp .g, 1), (3, .ifCond .ge (8), 3), (6, .dload_n 0, 1), (7, .dneg, 1), (8, .goto (4), 3), (11, .dload_n 0, 1), (12, .dreturn, 1)]
theorem dd_Ca_sizeOf : (ld_Ca_sizeOf).all (dOK prog_3_method_18_code) = true := by decide +kernel
theorem d_Ca_sizeOf_0 : decode prog_3_method_18_code 0 = .ok (.dload_n 0, 1) := dd_at dd_Ca_sizeOf 0 rfl
theorem d_Ca_sizeOf_1 : decode prog_3_method_18_code 1 = .ok (.dconst 0, 1) := dd_at dd_Ca_sizeOf 1 rfl
theorem d_Ca_sizeOf_2 : decode prog_3_method_18_code 2 = .ok (.dcmp .g, 1) := dd_at dd_Ca_sizeOf 2 rfl
theorem d_Ca_sizeOf_3 : decode prog_3_method_18_code 3 = .ok (.ifCond .ge (8), 3) := dd_at dd_Ca_sizeOf 3 rfl
theorem d_Ca_sizeOf_6 : decode prog_3_method_18_code 6 = .ok (.dload_n 0, 1) := dd_at dd_Ca_sizeOf 4 rfl
theorem d_Ca_sizeOf_7 : decode prog_3_method_18_code 7 = .ok (.dneg, 1) := dd_at dd_Ca_sizeOf 5 rfl
theorem d_Ca_sizeOf_8 : decode prog_3_method_18_code 8 = .ok (.goto (4), 3) := dd_at dd_Ca_sizeOf 6 rfl
theorem d_Ca_sizeOf_11 : decode prog_3_method_18_code 11 = .ok (.dload_n 0, 1) := dd_at dd_Ca_sizeOf 7 rfl
theorem d_Ca_sizeOf_12 : decode prog_3_method_18_code 12 = .ok (.dreturn, 1) := dd_at dd_Ca_sizeOf 8 rfl
def ld_Ca_floorOf : List (Nat × Instr × Nat) := [(0, .dload_n 0, 1), (1, .d2l, 1), (2, .lstore_n 2, 1), (3, .lload_n 2, 1), (4, .l2d, 1), (5, .dload_n 0, 1), (6, .dcmp .l, 1), (7, .ifCond .le (10), 3), (10, .lload_n 2, 1), (11, .lconst 1, 1), (12, .lsub, 1), (13, .l2d, 1), (14, .goto (5), 3), (17, .lload_n 2, 1), (18, .l2d, 1), (19, .dreturn, 1)]
theorem dd_Ca_floorOf : (ld_Ca_floorOf).all (dOK prog_3_method_19_code) = true := by decide +kernel
theorem d_Ca_floorOf_0 : decode prog_3_method_19_code 0 = .ok (.dload_n 0, 1) := dd_at dd_Ca_floorOf 0 rfl
theorem d_Ca_floorOf_1 : decode prog_3_method_19_code 1 = .ok (.d2l, 1) := dd_at dd_Ca_floorOf 1 rfl
theorem d_Ca_floorOf_2 : decode prog_3_method_19_code 2 = .ok (.lstore_n 2, 1) := dd_at dd_Ca_floorOf 2 rfl
theorem d_Ca_floorOf_3 : decode prog_3_method_19_code 3 = .ok (.lload_n 2, 1) := dd_at dd_Ca_floorOf 3 rfl
theorem d_Ca_floorOf_4 : decode prog_3_method_19_code 4 = .ok (.l2d, 1) := dd_at dd_Ca_floorOf 4 rfl
theorem d_Ca_floorOf_5 : decode prog_3_method_19_code 5 = .ok (.dload_n 0, 1) := dd_at dd_Ca_floorOf 5 rfl
theorem d_Ca_floorOf_6 : decode prog_3_method_19_code 6 = .ok (.dcmp .l, 1) := dd_at dd_Ca_floorOf 6 rfl
theorem d_Ca_floorOf_7 : decode prog_3_method_19_code 7 = .ok (.ifCond .le (10), 3) := dd_at dd_Ca_floorOf 7 rfl
theorem d_Ca_floorOf_10 : decode prog_3_method_19_code 10 = .ok (.lload_n 2, 1) := dd_at dd_Ca_floorOf 8 rfl
theorem d_Ca_floorOf_11 : decode prog_3_method_19_code 11 = .ok (.lconst 1, 1) := dd_at dd_Ca_floorOf 9 rfl
theorem d_Ca_floorOf_12 : decode prog_3_method_19_code 12 = .ok (.lsub, 1) := dd_at dd_Ca_floorOf 10 rfl
theorem d_Ca_floorOf_13 : decode prog_3_method_19_code 13 = .ok (.l2d, 1) := dd_at dd_Ca_floorOf 11 rfl
theorem d_Ca_floorOf_14 : decode prog_3_method_19_code 14 = .ok (.goto (5), 3) := dd_at dd_Ca_floorOf 12 rfl
theorem d_Ca_floorOf_17 : decode prog_3_method_19_code 17 = .ok (.lload_n 2, 1) := dd_at dd_Ca_floorOf 13 rfl
theorem d_Ca_floorOf_18 : decode prog_3_method_19_code 18 = .ok (.l2d, 1) := dd_at dd_Ca_floorOf 14 rfl
theorem d_Ca_floorOf_19 : decode prog_3_method_19_code 19 = .ok (.dreturn, 1) := dd_at dd_Ca_floorOf 15 rfl
def ld_Ca_signOf : List (Nat × Instr × Nat) := [(0, .dload_n 0, 1), (1, .dconst 0, 1), (2, .dcmp .g, 1), (3, .ifCond .ge (9), 3), (6, .ldc2_w 161, 3), (9, .goto (14), 3), (12, .dload_n 0, 1), (13, .dconst 0, 1), (14, .dcmp .l, 1), (15, .ifCond .le (7), 3), (18, .dconst 1, 1), (19, .goto (4), 3), (22, .dconst 0, 1), (23, .dreturn, 1)]
theorem dd_Ca_signOf : (ld_Ca_signOf).all (dOK prog_3_method_20_code) = true := by decide +kernel
theorem d_Ca_signOf_0 : decode prog_3_method_20_code 0 = .ok (.dload_n 0, 1) := dd_at dd_Ca_signOf 0 rfl
theorem d_Ca_signOf_1 : decode prog_3_method_20_code 1 = .ok (.dconst 0, 1) := dd_at dd_Ca_signOf 1 rfl
theorem d_Ca_signOf_2 : decode prog_3_method_20_code 2 = .ok (.dcmp .g, 1) := dd_at dd_Ca_signOf 2 rfl
theorem d_Ca_signOf_3 : decode prog_3_method_20_code 3 = .ok (.ifCond .ge (9), 3) := dd_at dd_Ca_signOf 3 rfl
theorem d_Ca_signOf_6 : decode prog_3_method_20_code 6 = .ok (.ldc2_w 161, 3) := dd_at dd_Ca_signOf 4 rfl
theorem d_Ca_signOf_9 : decode prog_3_method_20_code 9 = .ok (.goto (14), 3) := dd_at dd_Ca_signOf 5 rfl
theorem d_Ca_signOf_12 : decode prog_3_method_20_code 12 = .ok (.dload_n 0, 1) := dd_at dd_Ca_signOf 6 rfl
theorem d_Ca_signOf_13 : decode prog_3_method_20_code 13 = .ok (.dconst 0, 1) := dd_at dd_Ca_signOf 7 rfl
theorem d_Ca_signOf_14 : decode prog_3_method_20_code 14 = .ok (.dcmp .l, 1) := dd_at dd_Ca_signOf 8 rfl
theorem d_Ca_signOf_15 : decode prog_3_method_20_code 15 = .ok (.ifCond .le (7), 3) := dd_at dd_Ca_signOf 9 rfl
theorem d_Ca_signOf_18 : decode prog_3_method_20_code 18 = .ok (.dconst 1, 1) := dd_at dd_Ca_signOf 10 rfl
theorem d_Ca_signOf_19 : decode prog_3_method_20_code 19 = .ok (.goto (4), 3) := dd_at dd_Ca_signOf 11 rfl
theorem d_Ca_signOf_22 : decode prog_3_method_20_code 22 = .ok (.dconst 0, 1) := dd_at dd_Ca_signOf 12 rfl
theorem d_Ca_signOf_23 : decode prog_3_method_20_code 23 = .ok (.dreturn, 1) := dd_at dd_Ca_signOf 13 rfl
def ld_Ca_pushElement : List (Nat × Instr × Nat) := [(0, .aload_n 0, 1), (1, .invokevirtual 96, 3), (4, .dstore_n 2, 1), (5, .aload_n 0, 1), (6, .invokevirtual 96, 3), (9, .dstore 4, 2), (11, .aload_n 1, 1), (12, .dload 4, 2), (14, .d2l, 1), (15, .dload_n 2, 1), (16, .d2l, 1), (17, .invokevirtual 163, 3), (20, .istore 6, 2), (22, .iload 6, 2), (24, .ifCond .ge (10), 3), (27, .aload_n 0, 1), (28, .getstatic 167, 3), (31, .invokevirtual 150, 3), (34, .aload_n 0, 1), (35, .aload_n 1, 1), (36, .iload 6, 2), (38, .invokevirtual 170, 3), (41, .invokevirtual 102, 3), (44, .return_, 1)]
theorem dd_Ca_pushElement : (ld_Ca_pushElement).all (dOK prog_3_method_21_code) = true := by decide +kernel
theorem d_Ca_pushElement_0 : decode prog_3_method_21_code 0 = .ok (.aload_n 0, 1) := dd_at dd_Ca_pushElement 0 rfl
theorem d_Ca_pushElement_1 : decode prog_3_method_21_code 1 = .ok (.invokevirtual 96, 3) := dd_at dd_Ca_pushElement 1 rfl
theorem d_Ca_pushElement_4 : decode prog_3_method_21_code 4 = .ok (.dstore_n 2, 1) := dd_at dd_Ca_pushElement 2 rfl
theorem d_Ca_pushElement_5 : decode prog_3_method_21_code 5 = .ok (.aload_n 0, 1) := dd_at dd_Ca_pushElement 3 rfl
theorem d_Ca_pushElement_6 : decode prog_3_method_21_code 6 = .ok (.invokevirtual 96, 3) := dd_at dd_Ca_pushElement 4 rfl
theorem d_Ca_pushElement_9 : decode prog_3_method_21_code 9 = .ok (.dstore 4, 2) := dd_at dd_Ca_pushElement 5 rfl
theorem d_Ca_pushElement_11 : decode prog_3_method_21_code 11 = .ok (.aload_n 1, 1) := dd_at dd_Ca_pushElement 6 rfl
theorem d_Ca_pushElement_12 : decode prog_3_method_21_code 12 = .ok (.dload 4, 2) := dd_at dd_Ca_pushElement 7 rfl
theorem d_Ca_pushElement_14 : decode prog_3_method_21_code 14 = .ok (.d2l, 1) := dd_at dd_Ca_pushElement 8 rfl
theorem d_Ca_pushElement_15 : decode prog_3_method_21_code 15 = .ok (.dload_n 2, 1) := dd_at dd_Ca_pushElement 9 rfl
theorem d_Ca_pushElement_16 : decode prog_3_method_21_code 16 = .ok (.d2l, 1) := dd_at dd_Ca_pushElement 10 rfl
theorem d_Ca_pushElement_17 : decode prog_3_method_21_code 17 = .ok (.invokevirtual 163, 3) := dd_at dd_Ca_pushElement 11 rfl
theorem d_Ca_pushElement_20 : decode prog_3_method_21_code 20 = .ok (.istore 6, 2) := dd_at dd_Ca_pushElement 12 rfl
theorem d_Ca_pushElement_22 : decode prog_3_method_21_code 22 = .ok (.iload 6, 2) := dd_at dd_Ca_pushElement 13 rfl
theorem d_Ca_pushElement_24 : decode prog_3_method_21_code 24 = .ok (.ifCond .ge (10), 3) := dd_at dd_Ca_pushElement 14 rfl
theorem d_Ca_pushElement_27 : decode prog_3_method_21_code 27 = .ok (.aload_n 0, 1) := dd_at dd_Ca_pushElement 15 rfl
theorem d_Ca_pushElement_28 : decode prog_3_method_21_code 28 = .ok (.getstatic 167, 3) := dd_at dd_Ca_pushElement 16 rfl
theorem d_Ca_pushElement_31 : decode prog_3_method_21_code 31 = .ok (.invokevirtual 150, 3) := dd_at dd_Ca_pushElement 17 rfl
theorem d_Ca_pushElement_34 : decode prog_3_method_21_code 34 = .ok (.aload_n 0, 1) := dd_at dd_Ca_pushElement 18 rfl
theorem d_Ca_pushElement_35 : decode prog_3_method_21_code 35 = .ok (.aload_n 1, 1) := dd_at dd_Ca_pushElement 19 rfl
theorem d_Ca_pushElement_36 : decode prog_3_method_21_code 36 = .ok (.iload 6, 2) := dd_at dd_Ca_pushElement 20 rfl
theorem d_Ca_pushElement_38 : decode prog_3_method_21_code 38 = .ok (.invokevirtual 170, 3) := dd_at dd_Ca_pushElement 21 rfl
theorem d_Ca_pushElement_41 : decode prog_3_method_21_code 41 = .ok (.invokevirtual 102, 3) := dd_at dd_Ca_pushElement 22 rfl
theorem d_Ca_pushElement_44 : decode prog_3_method_21_code 44 = .ok (.return_, 1) := dd_at dd_Ca_pushElement 23 rfl
def ld_Ca_findFunction : List (Nat × Instr × Nat) := [(0, .aload_n 0, 1), (1, .iload_n 1, 1), (2, .invokevirtual 132, 3), (5, .ifnonnull (10), 3), (8, .aload_n 0, 1), (9, .getstatic 171, 3), (12, .invokevirtual 150, 3), (15, .return_, 1)]
theorem dd_Ca_findFunction : (ld_Ca_findFunction).all (dOK prog_3_method_22_code) = true := by decide +kernel
theorem d_Ca_findFunction_0 : decode prog_3_method_22_code 0 = .ok (.aload_n 0, 1) := dd_at dd_Ca_findFunction 0 rfl
theorem d_Ca_findFunction_1 : decode prog_3_method_22_code 1 = .ok (.iload_n 1, 1) := dd_at dd_Ca_findFunction 1 rfl
theorem d_Ca_findFunction_2 : decode prog_3_method_22_code 2 = .ok (.invokevirtual 132, 3) := dd_at dd_Ca_findFunction 2 rfl
theorem d_Ca_findFunction_5 : decode prog_3_method_22_code 5 = .ok (.ifnonnull (10), 3) := dd_at dd_Ca_findFunction 3 rfl
theorem d_Ca_findFunction_8 : decode prog_3_method_22_code 8 = .ok (.aload_n 0, 1) := dd_at dd_Ca_findFunction 4 rfl
theorem d_Ca_findFunction_9 : decode prog_3_method_22_code 9 = .ok (.getstatic 171, 3) := dd_at dd_Ca_findFunction 5 rfl
theorem d_Ca_findFunction_12 : decode prog_3_method_22_code 12 = .ok (.invokevirtual 150, 3) := dd_at dd_Ca_findFunction 6 rfl
theorem d_Ca_findFunction_15 : decode prog_3_method_22_code 15 = .ok (.return_, 1) := dd_at dd_Ca_findFunction 7 rfl
def ld_Ca_callFunction : List (Nat × Instr × Nat) := [(0, .aload_n 0, 1), (1, .invokevirtual 96, 3), (4, .dstore_n 3, 1), (5, .aload_n 1, 1), (6, .ifnonnull (11), 3), (9, .aload_n 0, 1), (10, .getstatic 171, 3), (13, .invokevirtual 150, 3), (16, .return_, 1), (17, .iload_n 2, 1), (18, .iconst 3, 1), (19, .if_icmp .lt (11), 3), (22, .aload_n 0, 1), (23, .getstatic 174, 3), (26, .invokevirtual 150, 3), (29, .return_, 1), (30, .aload_n 0, 1), (31, .aload_n 1, 1), (32, .getfield 177, 3), (35, .invokevirtual 106, 3), (38, .dstore 5, 2), (40, .aload_n 0, 1), (41, .aload_n 1, 1), (42, .getfield 177, 3), (45, .dload_n 3, 1), (46, .invokevirtual 180, 3), (49, .aload_n 0, 1), (50, .aload_n 1, 1), (51, .iconst 0, 1), (52, .iload_n 2, 1), (53, .iconst 1, 1), (54, .iadd, 1), (55, .invokevirtual 64, 3), (58, .dstore 7, 2), (60, .aload_n 0, 1), (61, .aload_n 1, 1), (62, .getfield 177, 3), (65, .dload 5, 2), (67, .invokevirtual 180, 3), (70, .aload_n 0, 1), (71, .dload 7, 2), (73, .invokevirtual 102, 3), (76, .return_, 1)]
theorem dd_Ca_callFunction : (ld_Ca_callFunction).all (dOK prog_3_method_23_code) = true := by decide +kernel
theorem d_Ca_callFunction_0 : decode prog_3_method_23_code 0 = .ok (.aload_n 0, 1) := dd_at dd_Ca_callFunction 0 rfl
theorem d_Ca_callFunction_1 : decode prog_3_method_23_code 1 = .ok (.invokevirtual 96, 3) := dd_at dd_Ca_callFunction 1 rfl
theorem d_Ca_callFunction_4 : decode prog_3_method_23_code 4 = .ok (.dstore_n 3, 1) := dd_at dd_Ca_callFunction 2 rfl
theorem d_Ca_callFunction_5 : decode prog_3_method_23_code 5 = .ok (.aload_n 1, 1) := dd_at dd_Ca_callFunction 3 rfl
theorem d_Ca_callFunction_6 : decode prog_3_method_23_code 6 = .ok (.ifnonnull (11), 3) := dd_at dd_Ca_callFunction 4 rfl
theorem d_Ca_callFunction_9 : decode prog_3_method_23_code 9 = .ok (.aload_n 0, 1) := dd_at dd_Ca_callFunction 5 rfl
theorem d_Ca_callFunction_10 : decode prog_3_method_23_code 10 = .ok (.getstatic 171, 3) := dd_at dd_Ca_callFunction 6 rfl
theorem d_Ca_callFunction_13 : decode prog_3_method_23_code 13 = .ok (.invokevirtual 150, 3) := dd_at dd_Ca_callFunction 7 rfl
theorem d_Ca_callFunction_16 : decode prog_3_method_23_code 16 = .ok (.return_, 1) := dd_at dd_Ca_callFunction 8 rfl
theorem d_Ca_callFunction_17 : decode prog_3_method_23_code 17 = .ok (.iload_n 2, 1) := dd_at dd_Ca_callFunction 9 rfl
theorem d_Ca_callFunction_18 : decode prog_3_method_23_code 18 = .ok (.iconst 3, 1) := dd_at dd_Ca_callFunction 10 rfl
theorem d_Ca_callFunction_19 : decode prog_3_method_23_code 19 = .ok (.if_icmp .lt (11), 3) := dd_at dd_Ca_callFunction 11 rfl
theorem d_Ca_callFunction_22 : decode prog_3_method_23_code 22 = .ok (.aload_n 0, 1) := dd_at dd_Ca_callFunction 12 rfl
theorem d_Ca_callFunction_23 : decode prog_3_method_23_code 23 = .ok (.getstatic 174, 3) := dd_at dd_Ca_callFunction 13 rfl
theorem d_Ca_callFunction_26 : decode prog_3_method_23_code 26 = .ok (.invokevirtual 150, 3) := dd_at dd_Ca_callFunction 14 rfl
theorem d_Ca_callFunction_29 : decode prog_3_method_23_code 29 = .ok (.return_, 1) := dd_at dd_Ca_callFunction 15 rfl
theorem d_Ca_callFunction_30 : decode prog_3_method_23_code 30 = .ok (.aload_n 0, 1) := dd_at dd_Ca_callFunction 16 rfl
theorem d_Ca_callFunction_31 : decode prog_3_method_23_code 31 = .ok (.aload_n 1, 1) := dd_at dd_Ca_callFunction 17 rfl
theorem d_Ca_callFunction_32 : decode prog_3_method_23_code 32 = .ok (.getfield 177, 3) := dd_at dd_Ca_callFunction 18 rfl
theorem d_Ca_callFunction_35 : decode prog_3_method_23_code 35 = .ok (.invokevirtual 106, 3) := dd_at dd_Ca_callFunction 19 rfl
theorem d_Ca_callFunction_38 : decode prog_3_method_23_code 38 = .ok (.dstore 5, 2) := dd_at dd_Ca_callFunction 20 rfl
theorem d_Ca_callFunction_40 : decode prog_3_method_23_code 40 = .ok (.aload_n 0, 1) := dd_at dd_Ca_callFunction 21 rfl
theorem d_Ca_callFunction_41 : decode prog_3_method_23_code 41 = .ok (.aload_n 1, 1) := dd_at dd_Ca_callFunction 22 rfl
theorem d_Ca_callFunction_42 : decode prog_3_method_23_code 42 = .ok (.getfield 177, 3) := dd_at dd_Ca_callFunction 23 rfl
theorem d_Ca_callFunction_45 : decode prog_3_method_23_code 45 = .ok (.dload_n 3, 1) := dd_at dd_Ca_callFunction 24 rfl
theorem d_Ca_callFunction_46 : decode prog_3_method_23_code 46 = .ok (.invokevirtual 180, 3) := dd_at dd_Ca_callFunction 25 rfl
theorem d_Ca_callFunction_49 : decode prog_3_method_23_code 49 = .ok (.aload_n 0, 1) := dd_at dd_Ca_callFunction 26 rfl
theorem d_Ca_callFunction_50 : decode prog_3_method_23_code 50 = .ok (.aload_n 1, 1) := dd_at dd_Ca_callFunction 27 rfl
theorem d_Ca_callFunction_51 : decode prog_3_method_23_code 51 = .ok (.iconst 0, 1) := dd_at dd_Ca_callFunction 28 rfl
theorem d_Ca_callFunction_52 : decode prog_3_method_23_code 52 = .ok (.iload_n 2, 1) := dd_at dd_Ca_callFunction 29 rfl
theorem d_Ca_callFunction_53 : decode prog_3_method_23_code 53 = .ok (.iconst 1, 1) := dd_at dd_Ca_callFunction 30 rfl
theorem d_Ca_callFunction_54 : decode prog_3_method_23_code 54 = .ok (.iadd, 1) := dd_at dd_Ca_callFunction 31 rfl
theorem d_Ca_callFunction_55 : decode prog_3_method_23_code 55 = .ok (.invokevirtual 64, 3) := dd_at dd_Ca_callFunction 32 rfl
theorem d_Ca_callFunction_58 : decode prog_3_method_23_code 58 = .ok (.dstore 7, 2) := dd_at dd_Ca_callFunction 33 rfl
theorem d_Ca_callFunction_60 : decode prog_3_method_23_code 60 = .ok (.aload_n 0, 1) := dd_at dd_Ca_callFunction 34 rfl
theorem d_Ca_callFunction_61 : decode prog_3_method_23_code 61 = .ok (.aload_n 1, 1) := dd_at dd_Ca_callFunction 35 rfl
theorem d_Ca_callFunction_62 : decode prog_3_method_23_code 62 = .ok (.getfield 177, 3) := dd_at dd_Ca_callFunction 36 rfl
theorem d_Ca_callFunction_65 : decode prog_3_method_23_code 65 = .ok (.dload 5, 2) := dd_at dd_Ca_callFunction 37 rfl
theorem d_Ca_callFunction_67 : decode prog_3_method_23_code 67 = .ok (.invokevirtual 180, 3) := dd_at dd_Ca_callFunction 38 rfl
theorem d_Ca_callFunction_70 : decode prog_3_method_23_code 70 = .ok (.aload_n 0, 1) := dd_at dd_Ca_callFunction 39 rfl
theorem d_Ca_callFunction_71 : decode prog_3_method_23_code 71 = .ok (.dload 7, 2) := dd_at dd_Ca_callFunction 40 rfl
theorem d_Ca_callFunction_73 : decode prog_3_method_23_code 73 = .ok (.invokevirtual 102, 3) := dd_at dd_Ca_callFunction 41 rfl
theorem d_Ca_callFunction_76 : decode prog_3_method_23_code 76 = .ok (.return_, 1) := dd_at dd_Ca_callFunction 42 rfl
def ld_Ca_fits : List (Nat × Instr × Nat) := [(0, .getstatic 225, 3), (3, .aload_n 0, 1), (4, .invokevirtual 230, 3), (7, .iaload, 1), (8, .tableswitch (143) (1) (6) #[(40), (45), (50), (70), (91), (112)], 40), (48, .aload_n 1, 1), (49, .invokevirtual 234, 3), (52, .ireturn, 1), (53, .aload_n 1, 1), (54, .invokevirtual 234, 3), (57, .ireturn, 1), (58, .aload_n 1, 1), (59, .invokevirtual 234, 3), (62, .ifCond .eq (14), 3), (65, .aload_n 1, 1), (66, .invokevirtual 237, 3), (69, .ifCond .eq (7), 3), (72, .iconst 1, 1), (73, .goto (4), 3), (76, .iconst 0, 1), (77, .ireturn, 1), (78, .aload_n 2, 1), (79, .invokevirtual 234, 3), (82, .ifCond .eq (15), 3), (85, .aload_n 2, 1), (86, .aload_n 3, 1), (87, .invokevirtual 240, 3), (90, .ifCond .eq (7), 3), (93, .iconst 1, 1), (94, .goto (4), 3), (97, .iconst 0, 1), (98, .ireturn, 1), (99, .aload_n 2, 1), (100, .invokevirtual 234, 3), (103, .ifCond .eq (15), 3), (106, .aload_n 2, 1), (107, .aload_n 3, 1), (108, .invokevirtual 240, 3), (111, .ifCond .eq (7), 3), (114, .iconst 1, 1), (115, .goto (4), 3), (118, .iconst 0, 1), (119, .ireturn, 1), (120, .aload_n 2, 1), (121, .invokevirtual 234, 3), (124, .ifCond .eq (25), 3), (127, .aload_n 3, 1), (128, .invokevirtual 234, 3), (131, .ifCond .eq (18), 3), (134, .aload_n 2, 1), (135, .getfield 214, 3), (138, .aload_n 3, 1), (139, .getfield 211, 3), (142, .if_icmp .ne (7), 3), (145, .iconst 1, 1), (146, .goto (4), 3), (149, .iconst 0, 1), (150, .ireturn, 1), (151, .aload_n 2, 1), (152, .invokevirtual 234, 3), (155, .ireturn, 1)]
theorem dd_Ca_fits : (ld_Ca_fits).all (dOK prog_3_method_25_code) = true := by decide +kernel
theorem d_Ca_fits_0 : decode prog_3_method_25_code 0 = .ok (.getstatic 225, 3) := dd_at dd_Ca_fits 0 rfl
theorem d_Ca_fits_3 : decode prog_3_method_25_code 3 = .ok (.aload_n 0, 1) := dd_at dd_Ca_fits 1 rfl
theorem d_Ca_fits_4 : decode prog_3_method_25_code 4 = .ok (.invokevirtual 230, 3) := dd_at dd_Ca_fits 2 rfl
theorem d_Ca_fits_7 : decode prog_3_method_25_code 7 = .ok (.iaload, 1) := dd_at dd_Ca_fits 3 rfl
theorem d_Ca_fits_8 : decode prog_3_method_25_code 8 = .ok (.tableswitch (143) (1) (6) #[(40), (45), (50), (70), (91), (112)], 40) := dd_at dd_Ca_fits 4 rfl
theorem d_Ca_fits_48 : decode prog_3_method_25_code 48 = .ok (.aload_n 1, 1) := dd_at dd_Ca_fits 5 rfl
theorem d_Ca_fits_49 : decode prog_3_method_25_code 49 = .ok (.invokevirtual 234, 3) := dd_at dd_Ca_fits 6 rfl
theorem d_Ca_fits_52 : decode prog_3_method_25_code 52 = .ok (.ireturn, 1) := dd_at dd_Ca_fits 7 rfl
theorem d_Ca_fits_53 : decode prog_3_method_25_code 53 = .ok (.aload_n 1, 1) := dd_at dd_Ca_fits 8 rfl
theorem d_Ca_fits_54 : decode prog_3_method_25_code 54 = .ok (.invokevirtual 234, 3) := dd_at dd_Ca_fits 9 rfl
theorem d_Ca_fits_57 : decode prog_3_method_25_code 57 = .ok (.ireturn, 1) := dd_at dd_Ca_fits 10 rfl
theorem d_Ca_fits_58 : decode prog_3_method_25_code 58 = .ok (.aload_n 1, 1) := dd_at dd_Ca_fits 11 rfl
theorem d_Ca_fits_59 : decode prog_3_method_25_code 59 = .ok (.invokevirtual 234, 3) := dd_at dd_Ca_fits 12 rfl
theorem d_Ca_fits_62 : decode prog_3_method_25_code 62 = .ok (.ifCond .eq (14), 3) := dd_at dd_Ca_fits 13 rfl
theorem d_Ca_fits_65 : decode prog_3_method_25_code 65 = .ok (.aload_n 1, 1) := dd_at dd_Ca_fits 14 rfl
theorem d_Ca_fits_66 : decode prog_3_method_25_code 66 = .ok (.invokevirtual 237, 3) := dd_at dd_Ca_fits 15 rfl
theorem d_Ca_fits_69 : decode prog_3_method_25_code 69 = .ok (.ifCond .eq (7), 3) := dd_at dd_Ca_fits 16 rfl
theorem d_Ca_fits_72 : decode prog_3_method_25_code 72 = .ok (.iconst 1, 1) := dd_at dd_Ca_fits 17 rfl
theorem d_Ca_fits_73 : decode prog_3_method_25_code 73 = .ok (.goto (4), 3) := dd_at dd_Ca_fits 18 rfl
theorem d_Ca_fits_76 : decode prog_3_method_25_code 76 = .ok (.iconst 0, 1) := dd_at dd_Ca_fits 19 rfl
theorem d_Ca_fits_77 : decode prog_3_method_25_code 77 = .ok (.ireturn, 1) := dd_at dd_Ca_fits 20 rfl
theorem d_Ca_fits_78 : decode prog_3_method_25_code 78 = .ok (.aload_n 2, 1) := dd_at dd_Ca_fits 21 rfl
theorem d_Ca_fits_79 : decode prog_3_method_25_code 79 = .ok (.invokevirtual 234, 3) := dd_at dd_Ca_fits 22 rfl
theorem d_Ca_fits_82 : decode prog_3_method_25_code 82 = .ok (.ifCond .eq (15), 3) := dd_at dd_Ca_fits 23 rfl
theorem d_Ca_fits_85 : decode prog_3_method_25_code 85 = .ok (.aload_n 2, 1) := dd_at dd_Ca_fits 24 rfl
theorem d_Ca_fits_86 : decode prog_3_method_25_code 86 = .ok (.aload_n 3, 1) := dd_at dd_Ca_fits 25 rfl
theorem d_Ca_fits_87 : decode prog_3_method_25_code 87 = .ok (.invokevirtual 240, 3) := dd_at dd_Ca_fits 26 rfl
theorem d_Ca_fits_90 : decode prog_3_method_25_code 90 = .ok (.ifCond .eq (7), 3) := dd_at dd_Ca_fits 27 rfl
theorem d_Ca_fits_93 : decode prog_3_method_25_code 93 = .ok (.iconst 1, 1) := dd_at dd_Ca_fits 28 rfl
theorem d_Ca_fits_94 : decode prog_3_method_25_code 94 = .ok (.goto (4), 3) := dd_at dd_Ca_fits 29 rfl
theorem d_Ca_fits_97 : decode prog_3_method_25_code 97 = .ok (.iconst 0, 1) := dd_at dd_Ca_fits 30 rfl
theorem d_Ca_fits_98 : decode prog_3_method_25_code 98 = .ok (.ireturn, 1) := dd_at dd_Ca_fits 31 rfl
theorem d_Ca_fits_99 : decode prog_3_method_25_code 99 = .ok (.aload_n 2, 1) := dd_at dd_Ca_fits 32 rfl
theorem d_Ca_fits_100 : decode prog_3_method_25_code 100 = .ok (.invokevirtual 234, 3) := dd_at dd_Ca_fits 33 rfl
theorem d_Ca_fits_103 : decode prog_3_method_25_code 103 = .ok (.ifCond .eq (15), 3) := dd_at dd_Ca_fits 34 rfl
theorem d_Ca_fits_106 : decode prog_3_method_25_code 106 = .ok (.aload_n 2, 1) := dd_at dd_Ca_fits 35 rfl
theorem d_Ca_fits_107 : decode prog_3_method_25_code 107 = .ok (.aload_n 3, 1) := dd_at dd_Ca_fits 36 rfl
theorem d_Ca_fits_108 : decode prog_3_method_25_code 108 = .ok (.invokevirtual 240, 3) := dd_at dd_Ca_fits 37 rfl
theorem d_Ca_fits_111 : decode prog_3_method_25_code 111 = .ok (.ifCond .eq (7), 3) := dd_at dd_Ca_fits 38 rfl
theorem d_Ca_fits_114 : decode prog_3_method_25_code 114 = .ok (.iconst 1, 1) := dd_at dd_Ca_fits 39 rfl
theorem d_Ca_fits_115 : decode prog_3_method_25_code 115 = .ok (.goto (4), 3) := dd_at dd_Ca_fits 40 rfl
theorem d_Ca_fits_118 : decode prog_3_method_25_code 118 = .ok (.iconst 0, 1) := dd_at dd_Ca_fits 41 rfl
theorem d_Ca_fits_119 : decode prog_3_method_25_code 119 = .ok (.ireturn, 1) := dd_at dd_Ca_fits 42 rfl
theorem d_Ca_fits_120 : decode prog_3_method_25_code 120 = .ok (.aload_n 2, 1) := dd_at dd_Ca_fits 43 rfl
theorem d_Ca_fits_121 : decode prog_3_method_25_code 121 = .ok (.invokevirtual 234, 3) := dd_at dd_Ca_fits 44 rfl
theorem d_Ca_fits_124 : decode prog_3_method_25_code 124 = .ok (.ifCond .eq (25), 3) := dd_at dd_Ca_fits 45 rfl
theorem d_Ca_fits_127 : decode prog_3_method_25_code 127 = .ok (.aload_n 3, 1) := dd_at dd_Ca_fits 46 rfl
theorem d_Ca_fits_128 : decode prog_3_method_25_code 128 = .ok (.invokevirtual 234, 3) := dd_at dd_Ca_fits 47 rfl
theorem d_Ca_fits_131 : decode prog_3_method_25_code 131 = .ok (.ifCond .eq (18), 3) := dd_at dd_Ca_fits 48 rfl
theorem d_Ca_fits_134 : decode prog_3_method_25_code 134 = .ok (.aload_n 2, 1) := dd_at dd_Ca_fits 49 rfl
theorem d_Ca_fits_135 : decode prog_3_method_25_code 135 = .ok (.getfield 214, 3) := dd_at dd_Ca_fits 50 rfl
theorem d_Ca_fits_138 : decode prog_3_method_25_code 138 = .ok (.aload_n 3, 1) := dd_at dd_Ca_fits 51 rfl
theorem d_Ca_fits_139 : decode prog_3_method_25_code 139 = .ok (.getfield 211, 3) := dd_at dd_Ca_fits 52 rfl
theorem d_Ca_fits_142 : decode prog_3_method_25_code 142 = .ok (.if_icmp .ne (7), 3) := dd_at dd_Ca_fits 53 rfl
theorem d_Ca_fits_145 : decode prog_3_method_25_code 145 = .ok (.iconst 1, 1) := dd_at dd_Ca_fits 54 rfl
theorem d_Ca_fits_146 : decode prog_3_method_25_code 146 = .ok (.goto (4), 3) := dd_at dd_Ca_fits 55 rfl
theorem d_Ca_fits_149 : decode prog_3_method_25_code 149 = .ok (.iconst 0, 1) := dd_at dd_Ca_fits 56 rfl
theorem d_Ca_fits_150 : decode prog_3_method_25_code 150 = .ok (.ireturn, 1) := dd_at dd_Ca_fits 57 rfl
theorem d_Ca_fits_151 : decode prog_3_method_25_code 151 = .ok (.aload_n 2, 1) := dd_at dd_Ca_fits 58 rfl
theorem d_Ca_fits_152 : decode prog_3_method_25_code 152 = .ok (.invokevirtual 234, 3) := dd_at dd_Ca_fits 59 rfl
theorem d_Ca_fits_155 : decode prog_3_method_25_code 155 = .ok (.ireturn, 1) := dd_at dd_Ca_fits 60 rfl
def ld_Ca_shapeDraft : List (Nat × Instr × Nat) := [(0, .getstatic 225, 3), (3, .aload_n 1, 1), (4, .invokevirtual 230, 3), (7, .iaload, 1), (8, .tableswitch (135) (1) (7) #[(44), (62), (80), (135), (135), (98), (117)], 44), (52, .aload_n 0, 1), (53, .getfield 37, 3), (56, .aload_n 2, 1), (57, .getfield 211, 3), (60, .aload_n 2, 1), (61, .getfield 214, 3), (64, .invokevirtual 53, 3), (67, .goto (91), 3), (70, .aload_n 0, 1), (71, .getfield 37, 3), (74, .aload_n 2, 1), (75, .getfield 211, 3), (78, .aload_n 2, 1), (79, .getfield 214, 3), (82, .invokevirtual 53, 3), (85, .goto (73), 3), (88, .aload_n 0, 1), (89, .getfield 37, 3), (92, .aload_n 2, 1), (93, .getfield 211, 3), (96, .aload_n 2, 1), (97, .getfield 214, 3), (100, .invokevirtual 53, 3), (103, .goto (55), 3), (106, .aload_n 0, 1), (107, .getfield 37, 3), (110, .aload_n 3, 1), (111, .getfield 211, 3), (114, .aload 4, 2), (116, .getfield 214, 3), (119, .invokevirtual 53, 3), (122, .goto (36), 3), (125, .aload_n 0, 1), (126, .getfield 37, 3), (129, .aload_n 3, 1), (130, .getfield 214, 3), (133, .aload_n 3, 1), (134, .getfield 211, 3), (137, .invokevirtual 53, 3), (140, .goto (18), 3), (143, .aload_n 0, 1), (144, .getfield 37, 3), (147, .aload_n 3, 1), (148, .getfield 211, 3), (151, .aload_n 3, 1), (152, .getfield 214, 3), (155, .invokevirtual 53, 3), (158, .return_, 1)]
theorem dd_Ca_shapeDraft : (ld_Ca_shapeDraft).all (dOK prog_3_method_26_code) = true := by decide +kernel
theorem d_Ca_shapeDraft_0 : decode prog_3_method_26_code 0 = .ok (.getstatic 225, 3) := dd_at dd_Ca_shapeDraft 0 rfl
theorem d_Ca_shapeDraft_3 : decode prog_3_method_26_code 3 = .ok (.aload_n 1, 1) := dd_at dd_Ca_shapeDraft 1 rfl
theorem d_Ca_shapeDraft_4 : decode prog_3_method_26_code 4 = .ok (.invokevirtual 230, 3) := dd_at dd_Ca_shapeDraft 2 rfl
theorem d_Ca_shapeDraft_7 : decode prog_3_method_26_code 7 = .ok (.iaload, 1) := dd_at dd_Ca_shapeDraft 3 rfl
theorem d_Ca_shapeDraft_8 : decode prog_3_method_26_code 8 = .ok (.tableswitch (135) (1) (7) #[(44), (62), (80), (135), (135), (98), (117)], 44) := dd_at dd_Ca_shapeDraft 4 rfl
theorem d_Ca_shapeDraft_52 : decode prog_3_method_26_code 52 = .ok (.aload_n 0, 1) := dd_at dd_Ca_shapeDraft 5 rfl
theorem d_Ca_shapeDraft_53 : decode prog_3_method_26_code 53 = .ok (.getfield 37, 3) := dd_at dd_Ca_shapeDraft 6 rfl
theorem d_Ca_shapeDraft_56 : decode prog_3_method_26_code 56 = .ok (.aload_n 2, 1) := dd_at dd_Ca_shapeDraft 7 rfl
theorem d_Ca_shapeDraft_57 : decode prog_3_method_26_code 57 = .ok (.getfield 211, 3) := dd_at dd_Ca_shapeDraft 8 rfl
theorem d_Ca_shapeDraft_60 : decode prog_3_method_26_code 60 = .ok (.aload_n 2, 1) := dd_at dd_Ca_shapeDraft 9 rfl
theorem d_Ca_shapeDraft_61 : decode prog_3_method_26_code 61 = .ok (.getfield 214, 3) := dd_at dd_Ca_shapeDraft 10 rfl
theorem d_Ca_shapeDraft_64 : decode prog_3_method_26_code 64 = .ok (.invokevirtual 53, 3) := dd_at dd_Ca_shapeDraft 11 rfl
theorem d_Ca_shapeDraft_67 : decode prog_3_method_26_code 67 = .ok (.goto (91), 3) := dd_at dd_Ca_shapeDraft 12 rfl
theorem d_Ca_shapeDraft_70 : decode prog_3_method_26_code 70 = .ok (.aload_n 0, 1) := dd_at dd_Ca_shapeDraft 13 rfl
theorem d_Ca_shapeDraft_71 : decode prog_3_method_26_code 71 = .ok (.getfield 37, 3) := dd_at dd_Ca_shapeDraft 14 rfl
theorem d_Ca_shapeDraft_74 : decode prog_3_method_26_code 74 = .ok (.aload_n 2, 1) := dd_at dd_Ca_shapeDraft 15 rfl
theorem d_Ca_shapeDraft_75 : decode prog_3_method_26_code 75 = .ok (.getfield 211, 3) := dd_at dd_Ca_shapeDraft 16 rfl
theorem d_Ca_shapeDraft_78 : decode prog_3_method_26_code 78 = .ok (.aload_n 2, 1) := dd_at dd_Ca_shapeDraft 17 rfl
theorem d_Ca_shapeDraft_79 : decode prog_3_method_26_code 79 = .ok (.getfield 214, 3) := dd_at dd_Ca_shapeDraft 18 rfl
theorem d_Ca_shapeDraft_82 : decode prog_3_method_26_code 82 = .ok (.invokevirtual 53, 3) := dd_at dd_Ca_shapeDraft 19 rfl
theorem d_Ca_shapeDraft_85 : decode prog_3_method_26_code 85 = .ok (.goto (73), 3) := dd_at dd_Ca_shapeDraft 20 rfl
theorem d_Ca_shapeDraft_88 : decode prog_3_method_26_code 88 = .ok (.aload_n 0, 1) := dd_at dd_Ca_shapeDraft 21 rfl
theorem d_Ca_shapeDraft_89 : decode prog_3_method_26_code 89 = .ok (.getfield 37, 3) := dd_at dd_Ca_shapeDraft 22 rfl
theorem d_Ca_shapeDraft_92 : decode prog_3_method_26_code 92 = .ok (.aload_n 2, 1) := dd_at dd_Ca_shapeDraft 23 rfl
theorem d_Ca_shapeDraft_93 : decode prog_3_method_26_code 93 = .ok (.getfield 211, 3) := dd_at dd_Ca_shapeDraft 24 rfl
theorem d_Ca_shapeDraft_96 : decode prog_3_method_26_code 96 = .ok (.aload_n 2, 1) := dd_at dd_Ca_shapeDraft 25 rfl
theorem d_Ca_shapeDraft_97 : decode prog_3_method_26_code 97 = .ok (.getfield 214, 3) := dd_at dd_Ca_shapeDraft 26 rfl
theorem d_Ca_shapeDraft_100 : decode prog_3_method_26_code 100 = .ok (.invokevirtual 53, 3) := dd_at dd_Ca_shapeDraft 27 rfl
theorem d_Ca_shapeDraft_103 : decode prog_3_method_26_code 103 = .ok (.goto (55), 3) := dd_at dd_Ca_shapeDraft 28 rfl
theorem d_Ca_shapeDraft_106 : decode prog_3_method_26_code 106 = .ok (.aload_n 0, 1) := dd_at dd_Ca_shapeDraft 29 rfl
theorem d_Ca_shapeDraft_107 : decode prog_3_method_26_code 107 = .ok (.getfield 37, 3) := dd_at dd_Ca_shapeDraft 30 rfl
theorem d_Ca_shapeDraft_110 : decode prog_3_method_26_code 110 = .ok (.aload_n 3, 1) := dd_at dd_Ca_shapeDraft 31 rfl
theorem d_Ca_shapeDraft_111 : decode prog_3_method_26_code 111 = .ok (.getfield 211, 3) := dd_at dd_Ca_shapeDraft 32 rfl
theorem d_Ca_shapeDraft_114 : decode prog_3_method_26_code 114 = .ok (.aload 4, 2) := dd_at dd_Ca_shapeDraft 33 rfl
theorem d_Ca_shapeDraft_116 : decode prog_3_method_26_code 116 = .ok (.getfield 214, 3) := dd_at dd_Ca_shapeDraft 34 rfl
theorem d_Ca_shapeDraft_119 : decode prog_3_method_26_code 119 = .ok (.invokevirtual 53, 3) := dd_at dd_Ca_shapeDraft 35 rfl
theorem d_Ca_shapeDraft_122 : decode prog_3_method_26_code 122 = .ok (.goto (36), 3) := dd_at dd_Ca_shapeDraft 36 rfl
theorem d_Ca_shapeDraft_125 : decode prog_3_method_26_code 125 = .ok (.aload_n 0, 1) := dd_at dd_Ca_shapeDraft 37 rfl
theorem d_Ca_shapeDraft_126 : decode prog_3_method_26_code 126 = .ok (.getfield 37, 3) := dd_at dd_Ca_shapeDraft 38 rfl
theorem d_Ca_shapeDraft_129 : decode prog_3_method_26_code 129 = .ok (.aload_n 3, 1) := dd_at dd_Ca_shapeDraft 39 rfl
theorem d_Ca_shapeDraft_130 : decode prog_3_method_26_code 130 = .ok (.getfield 214, 3) := dd_at dd_Ca_shapeDraft 40 rfl
theorem d_Ca_shapeDraft_133 : decode prog_3_method_26_code 133 = .ok (.aload_n 3, 1) := dd_at dd_Ca_shapeDraft 41 rfl
theorem d_Ca_shapeDraft_134 : decode prog_3_method_26_code 134 = .ok (.getfield 211, 3) := dd_at dd_Ca_shapeDraft 42 rfl
theorem d_Ca_shapeDraft_137 : decode prog_3_method_26_code 137 = .ok (.invokevirtual 53, 3) := dd_at dd_Ca_shapeDraft 43 rfl
theorem d_Ca_shapeDraft_140 : decode prog_3_method_26_code 140 = .ok (.goto (18), 3) := dd_at dd_Ca_shapeDraft 44 rfl
theorem d_Ca_shapeDraft_143 : decode prog_3_method_26_code 143 = .ok (.aload_n 0, 1) := dd_at dd_Ca_shapeDraft 45 rfl
theorem d_Ca_shapeDraft_144 : decode prog_3_method_26_code 144 = .ok (.getfield 37, 3) := dd_at dd_Ca_shapeDraft 46 rfl
theorem d_Ca_shapeDraft_147 : decode prog_3_method_26_code 147 = .ok (.aload_n 3, 1) := dd_at dd_Ca_shapeDraft 47 rfl
theorem d_Ca_shapeDraft_148 : decode prog_3_method_26_code 148 = .ok (.getfield 211, 3) := dd_at dd_Ca_shapeDraft 48 rfl
theorem d_Ca_shapeDraft_151 : decode prog_3_method_26_code 151 = .ok (.aload_n 3, 1) := dd_at dd_Ca_shapeDraft 49 rfl
theorem d_Ca_shapeDraft_152 : decode prog_3_method_26_code 152 = .ok (.getfield 214, 3) := dd_at dd_Ca_shapeDraft 50 rfl
theorem d_Ca_shapeDraft_155 : decode prog_3_method_26_code 155 = .ok (.invokevirtual 53, 3) := dd_at dd_Ca_shapeDraft 51 rfl
theorem d_Ca_shapeDraft_158 : decode prog_3_method_26_code 158 = .ok (.return_, 1) := dd_at dd_Ca_shapeDraft 52 rfl
def ld_Ca_sumOfProducts : List (Nat × Instr × Nat) := [(0, .dconst 0, 1), (1, .dstore 5, 2), (3, .iconst 1, 1), (4, .istore 7, 2), (6, .iload 7, 2), (8, .aload_n 1, 1), (9, .getfield 214, 3), (12, .if_icmp .gt (50), 3), (15, .aload_n 0, 1), (16, .dload 5, 2), (18, .aload_n 0, 1), (19, .aload_n 1, 1), (20, .aload_n 1, 1), (21, .iload_n 3, 1), (22, .i2l, 1), (23, .iload 7, 2), (25, .i2l, 1), (26, .invokevirtual 163, 3), (29, .invokevirtual 170, 3), (32, .aload_n 2, 1), (33, .aload_n 2, 1), (34, .iload 7, 2), (36, .i2l, 1), (37, .iload 4, 2), (39, .i2l, 1), (40, .invokevirtual 163, 3), (43, .invokevirtual 170, 3), (46, .dmul, 1), (47, .invokevirtual 140, 3), (50, .dadd, 1), (51, .invokevirtual 140, 3), (54, .dstore 5, 2), (56, .iinc 7 (1), 3), (59, .goto (-53), 3), (62, .dload 5, 2), (64, .dreturn, 1)]
theorem dd_Ca_sumOfProducts : (ld_Ca_sumOfProducts).all (dOK prog_3_method_28_code) = true := by decide +kernel
theorem d_Ca_sumOfProducts_0 : decode prog_3_method_28_code 0 = .ok (.dconst 0, 1) := dd_at dd_Ca_sumOfProducts 0 rfl
theorem d_Ca_sumOfProducts_1 : decode prog_3_method_28_code 1 = .ok (.dstore 5, 2) := dd_at dd_Ca_sumOfProducts 1 rfl
theorem d_Ca_sumOfProducts_3 : decode prog_3_method_28_code 3 = .ok (.iconst 1, 1) := dd_at dd_Ca_sumOfProducts 2 rfl
theorem d_Ca_sumOfProducts_4 : decode prog_3_method_28_code 4 = .ok (.istore 7, 2) := dd_at dd_Ca_sumOfProducts 3 rfl
theorem d_Ca_sumOfProducts_6 : decode prog_3_method_28_code 6 = .ok (.iload 7, 2) := dd_at dd_Ca_sumOfProducts 4 rfl
theorem d_Ca_sumOfProducts_8 : decode prog_3_method_28_code 8 = .ok (.aload_n 1, 1) := dd_at dd_Ca_sumOfProducts 5 rfl
theorem d_Ca_sumOfProducts_9 : decode prog_3_method_28_code 9 = .ok (.getfield 214, 3) := dd_at dd_Ca_sumOfProducts 6 rfl
theorem d_Ca_sumOfProducts_12 : decode prog_3_method_28_code 12 = .ok (.if_icmp .gt (50), 3) := dd_at dd_Ca_sumOfProducts 7 rfl
theorem d_Ca_sumOfProducts_15 : decode prog_3_method_28_code 15 = .ok (.aload_n 0, 1) := dd_at dd_Ca_sumOfProducts 8 rfl
theorem d_Ca_sumOfProducts_16 : decode prog_3_method_28_code 16 = .ok (.dload 5, 2) := dd_at dd_Ca_sumOfProducts 9 rfl
theorem d_Ca_sumOfProducts_18 : decode prog_3_method_28_code 18 = .ok (.aload_n 0, 1) := dd_at dd_Ca_sumOfProducts 10 rfl
theorem d_Ca_sumOfProducts_19 : decode prog_3_method_28_code 19 = .ok (.aload_n 1, 1) := dd_at dd_Ca_sumOfProducts 11 rfl
theorem d_Ca_sumOfProducts_20 : decode prog_3_method_28_code 20 = .ok (.aload_n 1, 1) := dd_at dd_Ca_sumOfProducts 12 rfl
theorem d_Ca_sumOfProducts_21 : decode prog_3_method_28_code 21 = .ok (.iload_n 3, 1) := dd_at dd_Ca_sumOfProducts 13 rfl
theorem d_Ca_sumOfProducts_22 : decode prog_3_method_28_code 22 = .ok (.i2l, 1) := dd_at dd_Ca_sumOfProducts 14 rfl
theorem d_Ca_sumOfProducts_23 : decode prog_3_method_28_code 23 = .ok (.iload 7, 2) := dd_at dd_Ca_sumOfProducts 15 rfl
theorem d_Ca_sumOfProducts_25 : decode prog_3_method_28_code 25 = .ok (.i2l, 1) := dd_at dd_Ca_sumOfProducts 16 rfl
theorem d_Ca_sumOfProducts_26 : decode prog_3_method_28_code 26 = .ok (.invokevirtual 163, 3) := dd_at dd_Ca_sumOfProducts 17 rfl
theorem d_Ca_sumOfProducts_29 : decode prog_3_method_28_code 29 = .ok (.invokevirtual 170, 3) := dd_at dd_Ca_sumOfProducts 18 rfl
theorem d_Ca_sumOfProducts_32 : decode prog_3_method_28_code 32 = .ok (.aload_n 2, 1) := dd_at dd_Ca_sumOfProducts 19 rfl
theorem d_Ca_sumOfProducts_33 : decode prog_3_method_28_code 33 = .ok (.aload_n 2, 1) := dd_at dd_Ca_sumOfProducts 20 rfl
theorem d_Ca_sumOfProducts_34 : decode prog_3_method_28_code 34 = .ok (.iload 7, 2) := dd_at dd_Ca_sumOfProducts 21 rfl
theorem d_Ca_sumOfProducts_36 : decode prog_3_method_28_code 36 = .ok (.i2l, 1) := dd_at dd_Ca_sumOfProducts 22 rfl
theorem d_Ca_sumOfProducts_37 : decode prog_3_method_28_code 37 = .ok (.iload 4, 2) := dd_at dd_Ca_sumOfProducts 23 rfl
theorem d_Ca_sumOfProducts_39 : decode prog_3_method_28_code 39 = .ok (.i2l, 1) := dd_at dd_Ca_sumOfProducts 24 rfl
theorem d_Ca_sumOfProducts_40 : decode prog_3_method_28_code 40 = .ok (.invokevirtual 163, 3) := dd_at dd_Ca_sumOfProducts 25 rfl
theorem d_Ca_sumOfProducts_43 : decode prog_3_method_28_code 43 = .ok (.invokevirtual 170, 3) := dd_at dd_Ca_sumOfProducts 26 rfl
theorem d_Ca_sumOfProducts_46 : decode prog_3_method_28_code 46 = .ok (.dmul, 1) := dd_at dd_Ca_sumOfProducts 27 rfl
theorem d_Ca_sumOfProducts_47 : decode prog_3_method_28_code 47 = .ok (.invokevirtual 140, 3) := dd_at dd_Ca_sumOfProducts 28 rfl
theorem d_Ca_sumOfProducts_50 : decode prog_3_method_28_code 50 = .ok (.dadd, 1) := dd_at dd_Ca_sumOfProducts 29 rfl
theorem d_Ca_sumOfProducts_51 : decode prog_3_method_28_code 51 = .ok (.invokevirtual 140, 3) := dd_at dd_Ca_sumOfProducts 30 rfl
theorem d_Ca_sumOfProducts_54 : decode prog_3_method_28_code 54 = .ok (.dstore 5, 2) := dd_at dd_Ca_sumOfProducts 31 rfl
theorem d_Ca_sumOfProducts_56 : decode prog_3_method_28_code 56 = .ok (.iinc 7 (1), 3) := dd_at dd_Ca_sumOfProducts 32 rfl
theorem d_Ca_sumOfProducts_59 : decode prog_3_method_28_code 59 = .ok (.goto (-53), 3) := dd_at dd_Ca_sumOfProducts 33 rfl
theorem d_Ca_sumOfProducts_62 : decode prog_3_method_28_code 62 = .ok (.dload 5, 2) := dd_at dd_Ca_sumOfProducts 34 rfl
theorem d_Ca_sumOfProducts_64 : decode prog_3_method_28_code 64 = .ok (.dreturn, 1) := dd_at dd_Ca_sumOfProducts 35 rfl
def ld_Pa_leaveBlanksOut : List (Nat × Instr × Nat) := [(0, .aload_n 0, 1), (1, .iconst 0, 1), (2, .putfield 46, 3), (5, .iconst 0, 1), (6, .istore_n 3, 1), (7, .iload_n 3, 1), (8, .iload_n 2, 1), (9, .if_icmp .ge (57), 3), (12, .iload_n 3, 1), (13, .aload_n 1, 1), (14, .arraylength, 1), (15, .if_icmp .ge (51), 3), (18, .aload_n 1, 1), (19, .iload_n 3, 1), (20, .caload, 1), (21, .bipush (32), 2), (23, .if_icmp .eq (37), 3), (26, .aload_n 0, 1), (27, .getfield 46, 3), (30, .aload_n 0, 1), (31, .getfield 18, 3), (34, .arraylength, 1), (35, .if_icmp .ge (25), 3), (38, .aload_n 0, 1), (39, .getfield 18, 3), (42, .aload_n 0, 1), (43, .getfield 46, 3), (46, .aload_n 1, 1), (47, .iload_n 3, 1), (48, .caload, 1), (49, .castore, 1), (50, .aload_n 0, 1), (51, .dup, 1), (52, .getfield 46, 3), (55, .iconst 1, 1), (56, .iadd, 1), (57, .putfield 46, 3), (60, .iinc 3 (1), 3), (63, .goto (-56), 3), (66, .return_, 1)]
theorem dd_Pa_leaveBlanksOut : (ld_Pa_leaveBlanksOut).all (dOK prog_10_method_3_code) = true := by decide +kernel
theorem d_Pa_leaveBlanksOut_0 : decode prog_10_method_3_code 0 = .ok (.aload_n 0, 1) := dd_at dd_Pa_leaveBlanksOut 0 rfl
theorem d_Pa_leaveBlanksOut_1 : decode prog_10_method_3_code 1 = .ok (.iconst 0, 1) := dd_at dd_Pa_leaveBlanksOut 1 rfl
theorem d_Pa_leaveBlanksOut_2 : decode prog_10_method_3_code 2 = .ok (.putfield 46, 3) := dd_at dd_Pa_leaveBlanksOut 2 rfl
theorem d_Pa_leaveBlanksOut_5 : decode prog_10_method_3_code 5 = .ok (.iconst 0, 1) := dd_at dd_Pa_leaveBlanksOut 3 rfl
theorem d_Pa_leaveBlanksOut_6 : decode prog_10_method_3_code 6 = .ok (.istore_n 3, 1) := dd_at dd_Pa_leaveBlanksOut 4 rfl
theorem d_Pa_leaveBlanksOut_7 : decode prog_10_method_3_code 7 = .ok (.iload_n 3, 1) := dd_at dd_Pa_leaveBlanksOut 5 rfl
theorem d_Pa_leaveBlanksOut_8 : decode prog_10_method_3_code 8 = .ok (.iload_n 2, 1) := dd_at dd_Pa_leaveBlanksOut 6 rfl
theorem d_Pa_leaveBlanksOut_9 : decode prog_10_method_3_code 9 = .ok (.if_icmp .ge (57), 3) := dd_at dd_Pa_leaveBlanksOut 7 rfl
theorem d_Pa_leaveBlanksOut_12 : decode prog_10_method_3_code 12 = .ok (.iload_n 3, 1) := dd_at dd_Pa_leaveBlanksOut 8 rfl
theorem d_Pa_leaveBlanksOut_13 : decode prog_10_method_3_code 13 = .ok (.aload_n 1, 1) := dd_at dd_Pa_leaveBlanksOut 9 rfl
theorem d_Pa_leaveBlanksOut_14 : decode prog_10_method_3_code 14 = .ok (.arraylength, 1) := dd_at dd_Pa_leaveBlanksOut 10 rfl
theorem d_Pa_leaveBlanksOut_15 : decode prog_10_method_3_code 15 = .ok (.if_icmp .ge (51), 3) := dd_at dd_Pa_leaveBlanksOut 11 rfl
theorem d_Pa_leaveBlanksOut_18 : decode prog_10_method_3_code 18 = .ok (.aload_n 1, 1) := dd_at dd_Pa_leaveBlanksOut 12 rfl
theorem d_Pa_leaveBlanksOut_19 : decode prog_10_method_3_code 19 = .ok (.iload_n 3, 1) := dd_at dd_Pa_leaveBlanksOut 13 rfl
theorem d_Pa_leaveBlanksOut_20 : decode prog_10_method_3_code 20 = .ok (.caload, 1) := dd_at dd_Pa_leaveBlanksOut 14 rfl
theorem d_Pa_leaveBlanksOut_21 : decode prog_10_method_3_code 21 = .ok (.bipush (32), 2) := dd_at dd_Pa_leaveBlanksOut 15 rfl
theorem d_Pa_leaveBlanksOut_23 : decode prog_10_method_3_code 23 = .ok (.if_icmp .eq (37), 3) := dd_at dd_Pa_leaveBlanksOut 16 rfl
theorem d_Pa_leaveBlanksOut_26 : decode prog_10_method_3_code 26 = .ok (.aload_n 0, 1) := dd_at dd_Pa_leaveBlanksOut 17 rfl
theorem d_Pa_leaveBlanksOut_27 : decode prog_10_method_3_code 27 = .ok (.getfield 46, 3) := dd_at dd_Pa_leaveBlanksOut 18 rfl
theorem d_Pa_leaveBlanksOut_30 : decode prog_10_method_3_code 30 = .ok (.aload_n 0, 1) := dd_at dd_Pa_leaveBlanksOut 19 rfl
theorem d_Pa_leaveBlanksOut_31 : decode prog_10_method_3_code 31 = .ok (.getfield 18, 3) := dd_at dd_Pa_leaveBlanksOut 20 rfl
theorem d_Pa_leaveBlanksOut_34 : decode prog_10_method_3_code 34 = .ok (.arraylength, 1) := dd_at dd_Pa_leaveBlanksOut 21 rfl
theorem d_Pa_leaveBlanksOut_35 : decode prog_10_method_3_code 35 = .ok (.if_icmp .ge (25), 3) := dd_at dd_Pa_leaveBlanksOut 22 rfl
theorem d_Pa_leaveBlanksOut_38 : decode prog_10_method_3_code 38 = .ok (.aload_n 0, 1) := dd_at dd_Pa_leaveBlanksOut 23 rfl
theorem d_Pa_leaveBlanksOut_39 : decode prog_10_method_3_code 39 = .ok (.getfield 18, 3) := dd_at dd_Pa_leaveBlanksOut 24 rfl
theorem d_Pa_leaveBlanksOut_42 : decode prog_10_method_3_code 42 = .ok (.aload_n 0, 1) := dd_at dd_Pa_leaveBlanksOut 25 rfl
theorem d_Pa_leaveBlanksOut_43 : decode prog_10_method_3_code 43 = .ok (.getfield 46, 3) := dd_at dd_Pa_leaveBlanksOut 26 rfl
theorem d_Pa_leaveBlanksOut_46 : decode prog_10_method_3_code 46 = .ok (.aload_n 1, 1) := dd_at dd_Pa_leaveBlanksOut 27 rfl
theorem d_Pa_leaveBlanksOut_47 : decode prog_10_method_3_code 47 = .ok (.iload_n 3, 1) := dd_at dd_Pa_leaveBlanksOut 28 rfl
theorem d_Pa_leaveBlanksOut_48 : decode prog_10_method_3_code 48 = .ok (.caload, 1) := dd_at dd_Pa_leaveBlanksOut 29 rfl
theorem d_Pa_leaveBlanksOut_49 : decode prog_10_method_3_code 49 = .ok (.castore, 1) := dd_at dd_Pa_leaveBlanksOut 30 rfl
theorem d_Pa_leaveBlanksOut_50 : decode prog_10_method_3_code 50 = .ok (.aload_n 0, 1) := dd_at dd_Pa_leaveBlanksOut 31 rfl
theorem d_Pa_leaveBlanksOut_51 : decode prog_10_method_3_code 51 = .ok (.dup, 1) := dd_at dd_Pa_leaveBlanksOut 32 rfl
theorem d_Pa_leaveBlanksOut_52 : decode prog_10_method_3_code 52 = .ok (.getfield 46, 3) := dd_at dd_Pa_leaveBlanksOut 33 rfl
theorem d_Pa_leaveBlanksOut_55 : decode prog_10_method_3_code 55 = .ok (.iconst 1, 1) := dd_at dd_Pa_leaveBlanksOut 34 rfl
theorem d_Pa_leaveBlanksOut_56 : decode prog_10_method_3_code 56 = .ok (.iadd, 1) := dd_at dd_Pa_leaveBlanksOut 35 rfl
theorem d_Pa_leaveBlanksOut_57 : decode prog_10_method_3_code 57 = .ok (.putfield 46, 3) := dd_at dd_Pa_leaveBlanksOut 36 rfl
theorem d_Pa_leaveBlanksOut_60 : decode prog_10_method_3_code 60 = .ok (.iinc 3 (1), 3) := dd_at dd_Pa_leaveBlanksOut 37 rfl
theorem d_Pa_leaveBlanksOut_63 : decode prog_10_method_3_code 63 = .ok (.goto (-56), 3) := dd_at dd_Pa_leaveBlanksOut 38 rfl
theorem d_Pa_leaveBlanksOut_66 : decode prog_10_method_3_code 66 = .ok (.return_, 1) := dd_at dd_Pa_leaveBlanksOut 39 rfl
def ld_Pa_next : List (Nat × Instr × Nat) := [(0, .aload_n 0, 1), (1, .getfield 26, 3), (4, .aload_n 0, 1), (5, .getfield 46, 3), (8, .if_icmp .ge (15), 3), (11, .aload_n 0, 1), (12, .getfield 18, 3), (15, .aload_n 0, 1), (16, .getfield 26, 3), (19, .caload, 1), (20, .goto (4), 3), (23, .iconst (-1), 1), (24, .ireturn, 1)]
theorem dd_Pa_next : (ld_Pa_next).all (dOK prog_10_method_4_code) = true := by decide +kernel
theorem d_Pa_next_0 : decode prog_10_method_4_code 0 = .ok (.aload_n 0, 1) := dd_at dd_Pa_next 0 rfl
theorem d_Pa_next_1 : decode prog_10_method_4_code 1 = .ok (.getfield 26, 3) := dd_at dd_Pa_next 1 rfl
theorem d_Pa_next_4 : decode prog_10_method_4_code 4 = .ok (.aload_n 0, 1) := dd_at dd_Pa_next 2 rfl
theorem d_Pa_next_5 : decode prog_10_method_4_code 5 = .ok (.getfield 46, 3) := dd_at dd_Pa_next 3 rfl
theorem d_Pa_next_8 : decode prog_10_method_4_code 8 = .ok (.if_icmp .ge (15), 3) := dd_at dd_Pa_next 4 rfl
theorem d_Pa_next_11 : decode prog_10_method_4_code 11 = .ok (.aload_n 0, 1) := dd_at dd_Pa_next 5 rfl
theorem d_Pa_next_12 : decode prog_10_method_4_code 12 = .ok (.getfield 18, 3) := dd_at dd_Pa_next 6 rfl
theorem d_Pa_next_15 : decode prog_10_method_4_code 15 = .ok (.aload_n 0, 1) := dd_at dd_Pa_next 7 rfl
theorem d_Pa_next_16 : decode prog_10_method_4_code 16 = .ok (.getfield 26, 3) := dd_at dd_Pa_next 8 rfl
theorem d_Pa_next_19 : decode prog_10_method_4_code 19 = .ok (.caload, 1) := dd_at dd_Pa_next 9 rfl
theorem d_Pa_next_20 : decode prog_10_method_4_code 20 = .ok (.goto (4), 3) := dd_at dd_Pa_next 10 rfl
theorem d_Pa_next_23 : decode prog_10_method_4_code 23 = .ok (.iconst (-1), 1) := dd_at dd_Pa_next 11 rfl
theorem d_Pa_next_24 : decode prog_10_method_4_code 24 = .ok (.ireturn, 1) := dd_at dd_Pa_next 12 rfl
def ld_Pa_behind : List (Nat × Instr × Nat) := [(0, .aload_n 0, 1), (1, .getfield 26, 3), (4, .iload_n 1, 1), (5, .iadd, 1), (6, .aload_n 0, 1), (7, .getfield 46, 3), (10, .if_icmp .ge (17), 3), (13, .aload_n 0, 1), (14, .getfield 18, 3), (17, .aload_n 0, 1), (18, .getfield 26, 3), (21, .iload_n 1, 1), (22, .iadd, 1), (23, .caload, 1), (24, .goto (4), 3), (27, .iconst (-1), 1), (28, .ireturn, 1)]
theorem dd_Pa_behind : (ld_Pa_behind).all (dOK prog_10_method_5_code) = true := by decide +kernel
theorem d_Pa_behind_0 : decode prog_10_method_5_code 0 = .ok (.aload_n 0, 1) := dd_at dd_Pa_behind 0 rfl
theorem d_Pa_behind_1 : decode prog_10_method_5_code 1 = .ok (.getfield 26, 3) := dd_at dd_Pa_behind 1 rfl
theorem d_Pa_behind_4 : decode prog_10_method_5_code 4 = .ok (.iload_n 1, 1) := dd_at dd_Pa_behind 2 rfl
theorem d_Pa_behind_5 : decode prog_10_method_5_code 5 = .ok (.iadd, 1) := dd_at dd_Pa_behind 3 rfl
theorem d_Pa_behind_6 : decode prog_10_method_5_code 6 = .ok (.aload_n 0, 1) := dd_at dd_Pa_behind 4 rfl
theorem d_Pa_behind_7 : decode prog_10_method_5_code 7 = .ok (.getfield 46, 3) := dd_at dd_Pa_behind 5 rfl
theorem d_Pa_behind_10 : decode prog_10_method_5_code 10 = .ok (.if_icmp .ge (17), 3) := dd_at dd_Pa_behind 6 rfl
theorem d_Pa_behind_13 : decode prog_10_method_5_code 13 = .ok (.aload_n 0, 1) := dd_at dd_Pa_behind 7 rfl
theorem d_Pa_behind_14 : decode prog_10_method_5_code 14 = .ok (.getfield 18, 3) := dd_at dd_Pa_behind 8 rfl
theorem d_Pa_behind_17 : decode prog_10_method_5_code 17 = .ok (.aload_n 0, 1) := dd_at dd_Pa_behind 9 rfl
theorem d_Pa_behind_18 : decode prog_10_method_5_code 18 = .ok (.getfield 26, 3) := dd_at dd_Pa_behind 10 rfl
theorem d_Pa_behind_21 : decode prog_10_method_5_code 21 = .ok (.iload_n 1, 1) := dd_at dd_Pa_behind 11 rfl
theorem d_Pa_behind_22 : decode prog_10_method_5_code 22 = .ok (.iadd, 1) := dd_at dd_Pa_behind 12 rfl
theorem d_Pa_behind_23 : decode prog_10_method_5_code 23 = .ok (.caload, 1) := dd_at dd_Pa_behind 13 rfl
theorem d_Pa_behind_24 : decode prog_10_method_5_code 24 = .ok (.goto (4), 3) := dd_at dd_Pa_behind 14 rfl
theorem d_Pa_behind_27 : decode prog_10_method_5_code 27 = .ok (.iconst (-1), 1) := dd_at dd_Pa_behind 15 rfl
theorem d_Pa_behind_28 : decode prog_10_method_5_code 28 = .ok (.ireturn, 1) := dd_at dd_Pa_behind 16 rfl
def ld_Pa_skip : List (Nat × Instr × Nat) := [(0, .aload_n 0, 1), (1, .getfield 26, 3), (4, .aload_n 0, 1), (5, .getfield 46, 3), (8, .if_icmp .ge (16), 3), (11, .aload_n 0, 1), (12, .getfield 18, 3), (15, .aload_n 0, 1), (16, .getfield 26, 3), (19, .caload, 1), (20, .iload_n 1, 1), (21, .if_icmp .eq (5), 3), (24, .iconst 0, 1), (25, .ireturn, 1), (26, .aload_n 0, 1), (27, .dup, 1), (28, .getfield 26, 3), (31, .iconst 1, 1), (32, .iadd, 1), (33, .putfield 26, 3), (36, .iconst 1, 1), (37, .ireturn, 1)]
theorem dd_Pa_skip : (ld_Pa_skip).all (dOK prog_10_method_6_code) = true := by decide +kernel
theorem d_Pa_skip_0 : decode prog_10_method_6_code 0 = .ok (.aload_n 0, 1) := dd_at dd_Pa_skip 0 rfl
theorem d_Pa_skip_1 : decode prog_10_method_6_code 1 = .ok (.getfield 26, 3) := dd_at dd_Pa_skip 1 rfl
theorem d_Pa_skip_4 : decode prog_10_method_6_code 4 = .ok (.aload_n 0, 1) := dd_at dd_Pa_skip 2 rfl
theorem d_Pa_skip_5 : decode prog_10_method_6_code 5 = .ok (.getfield 46, 3) := dd_at dd_Pa_skip 3 rfl
theorem d_Pa_skip_8 : decode prog_10_method_6_code 8 = .ok (.if_icmp .ge (16), 3) := dd_at dd_Pa_skip 4 rfl
theorem d_Pa_skip_11 : decode prog_10_method_6_code 11 = .ok (.aload_n 0, 1) := dd_at dd_Pa_skip 5 rfl
theorem d_Pa_skip_12 : decode prog_10_method_6_code 12 = .ok (.getfield 18, 3) := dd_at dd_Pa_skip 6 rfl
theorem d_Pa_skip_15 : decode prog_10_method_6_code 15 = .ok (.aload_n 0, 1) := dd_at dd_Pa_skip 7 rfl
theorem d_Pa_skip_16 : decode prog_10_method_6_code 16 = .ok (.getfield 26, 3) := dd_at dd_Pa_skip 8 rfl
theorem d_Pa_skip_19 : decode prog_10_method_6_code 19 = .ok (.caload, 1) := dd_at dd_Pa_skip 9 rfl
theorem d_Pa_skip_20 : decode prog_10_method_6_code 20 = .ok (.iload_n 1, 1) := dd_at dd_Pa_skip 10 rfl
theorem d_Pa_skip_21 : decode prog_10_method_6_code 21 = .ok (.if_icmp .eq (5), 3) := dd_at dd_Pa_skip 11 rfl
theorem d_Pa_skip_24 : decode prog_10_method_6_code 24 = .ok (.iconst 0, 1) := dd_at dd_Pa_skip 12 rfl
theorem d_Pa_skip_25 : decode prog_10_method_6_code 25 = .ok (.ireturn, 1) := dd_at dd_Pa_skip 13 rfl
theorem d_Pa_skip_26 : decode prog_10_method_6_code 26 = .ok (.aload_n 0, 1) := dd_at dd_Pa_skip 14 rfl
theorem d_Pa_skip_27 : decode prog_10_method_6_code 27 = .ok (.dup, 1) := dd_at dd_Pa_skip 15 rfl
theorem d_Pa_skip_28 : decode prog_10_method_6_code 28 = .ok (.getfield 26, 3) := dd_at dd_Pa_skip 16 rfl
theorem d_Pa_skip_31 : decode prog_10_method_6_code 31 = .ok (.iconst 1, 1) := dd_at dd_Pa_skip 17 rfl
theorem d_Pa_skip_32 : decode prog_10_method_6_code 32 = .ok (.iadd, 1) := dd_at dd_Pa_skip 18 rfl
theorem d_Pa_skip_33 : decode prog_10_method_6_code 33 = .ok (.putfield 26, 3) := dd_at dd_Pa_skip 19 rfl
theorem d_Pa_skip_36 : decode prog_10_method_6_code 36 = .ok (.iconst 1, 1) := dd_at dd_Pa_skip 20 rfl
theorem d_Pa_skip_37 : decode prog_10_method_6_code 37 = .ok (.ireturn, 1) := dd_at dd_Pa_skip 21 rfl
def ld_Pa_anything : List (Nat × Instr × Nat) := [(0, .aload_n 0, 1), (1, .aload_n 0, 1), (2, .getfield 46, 3), (5, .putfield 26, 3), (8, .iconst 1, 1), (9, .ireturn, 1)]
theorem dd_Pa_anything : (ld_Pa_anything).all (dOK prog_10_method_11_code) = true := by decide +kernel
theorem d_Pa_anything_0 : decode prog_10_method_11_code 0 = .ok (.aload_n 0, 1) := dd_at dd_Pa_anything 0 rfl
theorem d_Pa_anything_1 : decode prog_10_method_11_code 1 = .ok (.aload_n 0, 1) := dd_at dd_Pa_anything 1 rfl
theorem d_Pa_anything_2 : decode prog_10_method_11_code 2 = .ok (.getfield 46, 3) := dd_at dd_Pa_anything 2 rfl
theorem d_Pa_anything_5 : decode prog_10_method_11_code 5 = .ok (.putfield 26, 3) := dd_at dd_Pa_anything 3 rfl
theorem d_Pa_anything_8 : decode prog_10_method_11_code 8 = .ok (.iconst 1, 1) := dd_at dd_Pa_anything 4 rfl
theorem d_Pa_anything_9 : decode prog_10_method_11_code 9 = .ok (.ireturn, 1) := dd_at dd_Pa_anything 5 rfl
def ld_Pa_extent : List (Nat × Instr × Nat) := [(0, .aload_n 0, 1), (1, .invokevirtual 157, 3), (4, .bipush (48), 2), (6, .isub, 1), (7, .istore_n 1, 1), (8, .iload_n 1, 1), (9, .iconst 1, 1), (10, .if_icmp .lt (9), 3), (13, .iload_n 1, 1), (14, .bipush (6), 2), (16, .if_icmp .le (5), 3), (19, .iconst 0, 1), (20, .ireturn, 1), (21, .aload_n 0, 1), (22, .getfield 12, 3), (25, .iload_n 1, 1), (26, .invokevirtual 164, 3), (29, .aload_n 0, 1), (30, .dup, 1), (31, .getfield 26, 3), (34, .iconst 1, 1), (35, .iadd, 1), (36, .putfield 26, 3), (39, .iconst 1, 1), (40, .ireturn, 1)]
theorem dd_Pa_extent : (ld_Pa_extent).all (dOK prog_10_method_18_code) = true := by decide +kernel
theorem d_Pa_extent_0 : decode prog_10_method_18_code 0 = .ok (.aload_n 0, 1) := dd_at dd_Pa_extent 0 rfl
theorem d_Pa_extent_1 : decode prog_10_method_18_code 1 = .ok (.invokevirtual 157, 3) := dd_at dd_Pa_extent 1 rfl
theorem d_Pa_extent_4 : decode prog_10_method_18_code 4 = .ok (.bipush (48), 2) := dd_at dd_Pa_extent 2 rfl
theorem d_Pa_extent_6 : decode prog_10_method_18_code 6 = .ok (.isub, 1) := dd_at dd_Pa_extent 3 rfl
theorem d_Pa_extent_7 : decode prog_10_method_18_code 7 = .ok (.istore_n 1, 1) := dd_at dd_Pa_extent 4 rfl
theorem d_Pa_extent_8 : decode prog_10_method_18_code 8 = .ok (.iload_n 1, 1) := dd_at dd_Pa_extent 5 rfl
theorem d_Pa_extent_9 : decode prog_10_method_18_code 9 = .ok (.iconst 1, 1) := dd_at dd_Pa_extent 6 rfl
theorem d_Pa_extent_10 : decode prog_10_method_18_code 10 = .ok (.if_icmp .lt (9), 3) := dd_at dd_Pa_extent 7 rfl
theorem d_Pa_extent_13 : decode prog_10_method_18_code 13 = .ok (.iload_n 1, 1) := dd_at dd_Pa_extent 8 rfl
theorem d_Pa_extent_14 : decode prog_10_method_18_code 14 = .ok (.bipush (6), 2) := dd_at dd_Pa_extent 9 rfl
theorem d_Pa_extent_16 : decode prog_10_method_18_code 16 = .ok (.if_icmp .le (5), 3) := dd_at dd_Pa_extent 10 rfl
theorem d_Pa_extent_19 : decode prog_10_method_18_code 19 = .ok (.iconst 0, 1) := dd_at dd_Pa_extent 11 rfl
theorem d_Pa_extent_20 : decode prog_10_method_18_code 20 = .ok (.ireturn, 1) := dd_at dd_Pa_extent 12 rfl
theorem d_Pa_extent_21 : decode prog_10_method_18_code 21 = .ok (.aload_n 0, 1) := dd_at dd_Pa_extent 13 rfl
theorem d_Pa_extent_22 : decode prog_10_method_18_code 22 = .ok (.getfield 12, 3) := dd_at dd_Pa_extent 14 rfl
theorem d_Pa_extent_25 : decode prog_10_method_18_code 25 = .ok (.iload_n 1, 1) := dd_at dd_Pa_extent 15 rfl
theorem d_Pa_extent_26 : decode prog_10_method_18_code 26 = .ok (.invokevirtual 164, 3) := dd_at dd_Pa_extent 16 rfl
theorem d_Pa_extent_29 : decode prog_10_method_18_code 29 = .ok (.aload_n 0, 1) := dd_at dd_Pa_extent 17 rfl
theorem d_Pa_extent_30 : decode prog_10_method_18_code 30 = .ok (.dup, 1) := dd_at dd_Pa_extent 18 rfl
theorem d_Pa_extent_31 : decode prog_10_method_18_code 31 = .ok (.getfield 26, 3) := dd_at dd_Pa_extent 19 rfl
theorem d_Pa_extent_34 : decode prog_10_method_18_code 34 = .ok (.iconst 1, 1) := dd_at dd_Pa_extent 20 rfl
theorem d_Pa_extent_35 : decode prog_10_method_18_code 35 = .ok (.iadd, 1) := dd_at dd_Pa_extent 21 rfl
theorem d_Pa_extent_36 : decode prog_10_method_18_code 36 = .ok (.putfield 26, 3) := dd_at dd_Pa_extent 22 rfl
theorem d_Pa_extent_39 : decode prog_10_method_18_code 39 = .ok (.iconst 1, 1) := dd_at dd_Pa_extent 23 rfl
theorem d_Pa_extent_40 : decode prog_10_method_18_code 40 = .ok (.ireturn, 1) := dd_at dd_Pa_extent 24 rfl
def ld_Pa_relation : List (Nat × Instr × Nat) := [(0, .aload_n 0, 1), (1, .invokevirtual 157, 3), (4, .istore_n 1, 1), (5, .aload_n 0, 1), (6, .getfield 12, 3), (9, .iload_n 1, 1), (10, .bipush (60), 2), (12, .if_icmp .ne (7), 3), (15, .iconst 1, 1), (16, .goto (24), 3), (19, .iload_n 1, 1), (20, .bipush (61), 2), (22, .if_icmp .ne (7), 3), (25, .iconst 2, 1), (26, .goto (14), 3), (29, .iload_n 1, 1), (30, .bipush (62), 2), (32, .if_icmp .ne (7), 3), (35, .iconst 4, 1), (36, .goto (4), 3), (39, .iconst 0, 1), (40, .putfield 197, 3), (43, .aload_n 0, 1), (44, .getfield 12, 3), (47, .getfield 197, 3), (50, .ifCond .ne (5), 3), (53, .iconst 0, 1), (54, .ireturn, 1), (55, .aload_n 0, 1), (56, .dup, 1), (57, .getfield 26, 3), (60, .iconst 1, 1), (61, .iadd, 1), (62, .putfield 26, 3), (65, .iload_n 1, 1), (66, .bipush (61), 2), (68, .if_icmp .eq (28), 3), (71, .aload_n 0, 1), (72, .bipush (61), 2), (74, .invokevirtual 68, 3), (77, .ifCond .eq (19), 3), (80, .aload_n 0, 1), (81, .getfield 12, 3), (84, .dup, 1), (85, .getfield 197, 3), (88, .iconst 2, 1), (89, .iadd, 1), (90, .putfield 197, 3), (93, .goto (31), 3), (96, .iload_n 1, 1), (97, .bipush (60), 2), (99, .if_icmp .ne (25), 3), (102, .aload_n 0, 1), (103, .bipush (62), 2), (105, .invokevirtual 68, 3), (108, .ifCond .eq (16), 3), (111, .aload_n 0, 1), (112, .getfield 12, 3), (115, .dup, 1), (116, .getfield 197, 3), (119, .iconst 4, 1), (120, .iadd, 1), (121, .putfield 197, 3), (124, .iconst 1, 1), (125, .ireturn, 1)]
theorem dd_Pa_relation : (ld_Pa_relation).all (dOK prog_10_method_23_code) = true := by decide +kernel
theorem d_Pa_relation_0 : decode prog_10_method_23_code 0 = .ok (.aload_n 0, 1) := dd_at dd_Pa_relation 0 rfl
theorem d_Pa_relation_1 : decode prog_10_method_23_code 1 = .ok (.invokevirtual 157, 3) := dd_at dd_Pa_relation 1 rfl
theorem d_Pa_relation_4 : decode prog_10_method_23_code 4 = .ok (.istore_n 1, 1) := dd_at dd_Pa_relation 2 rfl
theorem d_Pa_relation_5 : decode prog_10_method_23_code 5 = .ok (.aload_n 0, 1) := dd_at dd_Pa_relation 3 rfl
theorem d_Pa_relation_6 : decode prog_10_method_23_code 6 = .ok (.getfield 12, 3) := dd_at dd_Pa_relation 4 rfl
theorem d_Pa_relation_9 : decode prog_10_method_23_code 9 = .ok (.iload_n 1, 1) := dd_at dd_Pa_relation 5 rfl
theorem d_Pa_relation_10 : decode prog_10_method_23_code 10 = .ok (.bipush (60), 2) := dd_at dd_Pa_relation 6 rfl
theorem d_Pa_relation_12 : decode prog_10_method_23_code 12 = .ok (.if_icmp .ne (7), 3) := dd_at dd_Pa_relation 7 rfl
theorem d_Pa_relation_15 : decode prog_10_method_23_code 15 = .ok (.iconst 1, 1) := dd_at dd_Pa_relation 8 rfl
theorem d_Pa_relation_16 : decode prog_10_method_23_code 16 = .ok (.goto (24), 3) := dd_at dd_Pa_relation 9 rfl
theorem d_Pa_relation_19 : decode prog_10_method_23_code 19 = .ok (.iload_n 1, 1) := dd_at dd_Pa_relation 10 rfl
theorem d_Pa_relation_20 : decode prog_10_method_23_code 20 = .ok (.bipush (61), 2) := dd_at dd_Pa_relation 11 rfl
theorem d_Pa_relation_22 : decode prog_10_method_23_code 22 = .ok (.if_icmp .ne (7), 3) := dd_at dd_Pa_relation 12 rfl
theorem d_Pa_relation_25 : decode prog_10_method_23_code 25 = .ok (.iconst 2, 1) := dd_at dd_Pa_relation 13 rfl
theorem d_Pa_relation_26 : decode prog_10_method_23_code 26 = .ok (.goto (14), 3) := dd_at dd_Pa_relation 14 rfl
theorem d_Pa_relation_29 : decode prog_10_method_23_code 29 = .ok (.iload_n 1, 1) := dd_at dd_Pa_relation 15 rfl
theorem d_Pa_relation_30 : decode prog_10_method_23_code 30 = .ok (.bipush (62), 2) := dd_at dd_Pa_relation 16 rfl
theorem d_Pa_relation_32 : decode prog_10_method_23_code 32 = .ok (.if_icmp .ne (7), 3) := dd_at dd_Pa_relation 17 rfl
theorem d_Pa_relation_35 : decode prog_10_method_23_code 35 = .ok (.iconst 4, 1) := dd_at dd_Pa_relation 18 rfl
theorem d_Pa_relation_36 : decode prog_10_method_23_code 36 = .ok (.goto (4), 3) := dd_at dd_Pa_relation 19 rfl
theorem d_Pa_relation_39 : decode prog_10_method_23_code 39 = .ok (.iconst 0, 1) := dd_at dd_Pa_relation 20 rfl
theorem d_Pa_relation_40 : decode prog_10_method_23_code 40 = .ok (.putfield 197, 3) := dd_at dd_Pa_relation 21 rfl
theorem d_Pa_relation_43 : decode prog_10_method_23_code 43 = .ok (.aload_n 0, 1) := dd_at dd_Pa_relation 22 rfl
theorem d_Pa_relation_44 : decode prog_10_method_23_code 44 = .ok (.getfield 12, 3) := dd_at dd_Pa_relation 23 rfl
theorem d_Pa_relation_47 : decode prog_10_method_23_code 47 = .ok (.getfield 197, 3) := dd_at dd_Pa_relation 24 rfl
theorem d_Pa_relation_50 : decode prog_10_method_23_code 50 = .ok (.ifCond .ne (5), 3) := dd_at dd_Pa_relation 25 rfl
theorem d_Pa_relation_53 : decode prog_10_method_23_code 53 = .ok (.iconst 0, 1) := dd_at dd_Pa_relation 26 rfl
theorem d_Pa_relation_54 : decode prog_10_method_23_code 54 = .ok (.ireturn, 1) := dd_at dd_Pa_relation 27 rfl
theorem d_Pa_relation_55 : decode prog_10_method_23_code 55 = .ok (.aload_n 0, 1) := dd_at dd_Pa_relation 28 rfl
theorem d_Pa_relation_56 : decode prog_10_method_23_code 56 = .ok (.dup, 1) := dd_at dd_Pa_relation 29 rfl
theorem d_Pa_relation_57 : decode prog_10_method_23_code 57 = .ok (.getfield 26, 3) := dd_at dd_Pa_relation 30 rfl
theorem d_Pa_relation_60 : decode prog_10_method_23_code 60 = .ok (.iconst 1, 1) := dd_at dd_Pa_relation 31 rfl
theorem d_Pa_relation_61 : decode prog_10_method_23_code 61 = .ok (.iadd, 1) := dd_at dd_Pa_relation 32 rfl
theorem d_Pa_relation_62 : decode prog_10_method_23_code 62 = .ok (.putfield 26, 3) := dd_at dd_Pa_relation 33 rfl
theorem d_Pa_relation_65 : decode prog_10_method_23_code 65 = .ok (.iload_n 1, 1) := dd_at dd_Pa_relation 34 rfl
theorem d_Pa_relation_66 : decode prog_10_method_23_code 66 = .ok (.bipush (61), 2) := dd_at dd_Pa_relation 35 rfl
theorem d_Pa_relation_68 : decode prog_10_method_23_code 68 = .ok (.if_icmp .eq (28), 3) := dd_at dd_Pa_relation 36 rfl
theorem d_Pa_relation_71 : decode prog_10_method_23_code 71 = .ok (.aload_n 0, 1) := dd_at dd_Pa_relation 37 rfl
theorem d_Pa_relation_72 : decode prog_10_method_23_code 72 = .ok (.bipush (61), 2) := dd_at dd_Pa_relation 38 rfl
theorem d_Pa_relation_74 : decode prog_10_method_23_code 74 = .ok (.invokevirtual 68, 3) := dd_at dd_Pa_relation 39 rfl
theorem d_Pa_relation_77 : decode prog_10_method_23_code 77 = .ok (.ifCond .eq (19), 3) := dd_at dd_Pa_relation 40 rfl
theorem d_Pa_relation_80 : decode prog_10_method_23_code 80 = .ok (.aload_n 0, 1) := dd_at dd_Pa_relation 41 rfl
theorem d_Pa_relation_81 : decode prog_10_method_23_code 81 = .ok (.getfield 12, 3) := dd_at dd_Pa_relation 42 rfl
theorem d_Pa_relation_84 : decode prog_10_method_23_code 84 = .ok (.dup, 1) := dd_at dd_Pa_relation 43 rfl
theorem d_Pa_relation_85 : decode prog_10_method_23_code 85 = .ok (.getfield 197, 3) := dd_at dd_Pa_relation 44 rfl
theorem d_Pa_relation_88 : decode prog_10_method_23_code 88 = .ok (.iconst 2, 1) := dd_at dd_Pa_relation 45 rfl
theorem d_Pa_relation_89 : decode prog_10_method_23_code 89 = .ok (.iadd, 1) := dd_at dd_Pa_relation 46 rfl
theorem d_Pa_relation_90 : decode prog_10_method_23_code 90 = .ok (.putfield 197, 3) := dd_at dd_Pa_relation 47 rfl
theorem d_Pa_relation_93 : decode prog_10_method_23_code 93 = .ok (.goto (31), 3) := dd_at dd_Pa_relation 48 rfl
theorem d_Pa_relation_96 : decode prog_10_method_23_code 96 = .ok (.iload_n 1, 1) := dd_at dd_Pa_relation 49 rfl
theorem d_Pa_relation_97 : decode prog_10_method_23_code 97 = .ok (.bipush (60), 2) := dd_at dd_Pa_relation 50 rfl
theorem d_Pa_relation_99 : decode prog_10_method_23_code 99 = .ok (.if_icmp .ne (25), 3) := dd_at dd_Pa_relation 51 rfl
theorem d_Pa_relation_102 : decode prog_10_method_23_code 102 = .ok (.aload_n 0, 1) := dd_at dd_Pa_relation 52 rfl
theorem d_Pa_relation_103 : decode prog_10_method_23_code 103 = .ok (.bipush (62), 2) := dd_at dd_Pa_relation 53 rfl
theorem d_Pa_relation_105 : decode prog_10_method_23_code 105 = .ok (.invokevirtual 68, 3) := dd_at dd_Pa_relation 54 rfl
theorem d_Pa_relation_108 : decode prog_10_method_23_code 108 = .ok (.ifCond .eq (16), 3) := dd_at dd_Pa_relation 55 rfl
theorem d_Pa_relation_111 : decode prog_10_method_23_code 111 = .ok (.aload_n 0, 1) := dd_at dd_Pa_relation 56 rfl
theorem d_Pa_relation_112 : decode prog_10_method_23_code 112 = .ok (.getfield 12, 3) := dd_at dd_Pa_relation 57 rfl
theorem d_Pa_relation_115 : decode prog_10_method_23_code 115 = .ok (.dup, 1) := dd_at dd_Pa_relation 58 rfl
theorem d_Pa_relation_116 : decode prog_10_method_23_code 116 = .ok (.getfield 197, 3) := dd_at dd_Pa_relation 59 rfl
theorem d_Pa_relation_119 : decode prog_10_method_23_code 119 = .ok (.iconst 4, 1) := dd_at dd_Pa_relation 60 rfl
theorem d_Pa_relation_120 : decode prog_10_method_23_code 120 = .ok (.iadd, 1) := dd_at dd_Pa_relation 61 rfl
theorem d_Pa_relation_121 : decode prog_10_method_23_code 121 = .ok (.putfield 197, 3) := dd_at dd_Pa_relation 62 rfl
theorem d_Pa_relation_124 : decode prog_10_method_23_code 124 = .ok (.iconst 1, 1) := dd_at dd_Pa_relation 63 rfl
theorem d_Pa_relation_125 : decode prog_10_method_23_code 125 = .ok (.ireturn, 1) := dd_at dd_Pa_relation 64 rfl
def ld_Pa_form : List (Nat × Instr × Nat) := [(0, .aload_n 0, 1), (1, .getfield 12, 3), (4, .aload_n 1, 1), (5, .putfield 239, 3), (8, .iconst 1, 1), (9, .ireturn, 1)]
theorem dd_Pa_form : (ld_Pa_form).all (dOK prog_10_method_26_code) = true := by decide +kernel
theorem d_Pa_form_0 : decode prog_10_method_26_code 0 = .ok (.aload_n 0, 1) := dd_at dd_Pa_form 0 rfl
theorem d_Pa_form_1 : decode prog_10_method_26_code 1 = .ok (.getfield 12, 3) := dd_at dd_Pa_form 1 rfl
theorem d_Pa_form_4 : decode prog_10_method_26_code 4 = .ok (.aload_n 1, 1) := dd_at dd_Pa_form 2 rfl
theorem d_Pa_form_5 : decode prog_10_method_26_code 5 = .ok (.putfield 239, 3) := dd_at dd_Pa_form 3 rfl
theorem d_Pa_form_8 : decode prog_10_method_26_code 8 = .ok (.iconst 1, 1) := dd_at dd_Pa_form 4 rfl
theorem d_Pa_form_9 : decode prog_10_method_26_code 9 = .ok (.ireturn, 1) := dd_at dd_Pa_form 5 rfl
def ld_Pa_operation : List (Nat × Instr × Nat) := [(0, .aload_n 0, 1), (1, .getfield 12, 3), (4, .iload_n 1, 1), (5, .iload_n 2, 1), (6, .invokevirtual 281, 3), (9, .iconst 1, 1), (10, .ireturn, 1)]
theorem dd_Pa_operation : (ld_Pa_operation).all (dOK prog_10_method_34_code) = true := by decide +kernel
theorem d_Pa_operation_0 : decode prog_10_method_34_code 0 = .ok (.aload_n 0, 1) := dd_at dd_Pa_operation 0 rfl
theorem d_Pa_operation_1 : decode prog_10_method_34_code 1 = .ok (.getfield 12, 3) := dd_at dd_Pa_operation 1 rfl
theorem d_Pa_operation_4 : decode prog_10_method_34_code 4 = .ok (.iload_n 1, 1) := dd_at dd_Pa_operation 2 rfl
theorem d_Pa_operation_5 : decode prog_10_method_34_code 5 = .ok (.iload_n 2, 1) := dd_at dd_Pa_operation 3 rfl
theorem d_Pa_operation_6 : decode prog_10_method_34_code 6 = .ok (.invokevirtual 281, 3) := dd_at dd_Pa_operation 4 rfl
theorem d_Pa_operation_9 : decode prog_10_method_34_code 9 = .ok (.iconst 1, 1) := dd_at dd_Pa_operation 5 rfl
theorem d_Pa_operation_10 : decode prog_10_method_34_code 10 = .ok (.ireturn, 1) := dd_at dd_Pa_operation 6 rfl
def ld_Pa_beginsName : List (Nat × Instr × Nat) := [(0, .aload_n 0, 1), (1, .invokevirtual 157, 3), (4, .lookupswitch (138) #[((65), (44)), ((70), (76)), ((73), (60)), ((83), (92))], 44), (48, .aload_n 0, 1), (49, .iconst 1, 1), (50, .invokevirtual 96, 3), (53, .bipush (66), 2), (55, .if_icmp .ne (7), 3), (58, .iconst 1, 1), (59, .goto (4), 3), (62, .iconst 0, 1), (63, .ireturn, 1), (64, .aload_n 0, 1), (65, .iconst 1, 1), (66, .invokevirtual 96, 3), (69, .bipush (78), 2), (71, .if_icmp .ne (7), 3), (74, .iconst 1, 1), (75, .goto (4), 3), (78, .iconst 0, 1), (79, .ireturn, 1), (80, .aload_n 0, 1), (81, .iconst 1, 1), (82, .invokevirtual 96, 3), (85, .bipush (78), 2), (87, .if_icmp .ne (7), 3), (90, .iconst 1, 1), (91, .goto (4), 3), (94, .iconst 0, 1), (95, .ireturn, 1), (96, .aload_n 0, 1), (97, .iconst 1, 1), (98, .invokevirtual 96, 3), (101, .bipush (71), 2), (103, .if_icmp .ne (37), 3), (106, .aload_n 0, 1), (107, .getfield 12, 3), (110, .getfield 86, 3), (113, .getstatic 285, 3), (116, .if_acmp .ne (20), 3), (119, .aload_n 0, 1), (120, .getfield 30, 3), (123, .ifCond .gt (13), 3), (126, .aload_n 0, 1), (127, .iconst 2, 1), (128, .invokevirtual 96, 3), (131, .bipush (78), 2), (133, .if_icmp .ne (7), 3), (136, .iconst 1, 1), (137, .goto (4), 3), (140, .iconst 0, 1), (141, .ireturn, 1), (142, .iconst 0, 1), (143, .ireturn, 1)]
theorem dd_Pa_beginsName : (ld_Pa_beginsName).all (dOK prog_10_method_35_code) = true := by decide +kernel
theorem d_Pa_beginsName_0 : decode prog_10_method_35_code 0 = .ok (.aload_n 0, 1) := dd_at dd_Pa_beginsName 0 rfl
theorem d_Pa_beginsName_1 : decode prog_10_method_35_code 1 = .ok (.invokevirtual 157, 3) := dd_at dd_Pa_beginsName 1 rfl
theorem d_Pa_beginsName_4 : decode prog_10_method_35_code 4 = .ok (.lookupswitch (138) #[((65), (44)), ((70), (76)), ((73), (60)), ((83), (92))], 44) := dd_at dd_Pa_beginsName 2 rfl
theorem d_Pa_beginsName_48 : decode prog_10_method_35_code 48 = .ok (.aload_n 0, 1) := dd_at dd_Pa_beginsName 3 rfl
theorem d_Pa_beginsName_49 : decode prog_10_method_35_code 49 = .ok (.iconst 1, 1) := dd_at dd_Pa_beginsName 4 rfl
theorem d_Pa_beginsName_50 : decode prog_10_method_35_code 50 = .ok (.invokevirtual 96, 3) := dd_at dd_Pa_beginsName 5 rfl
theorem d_Pa_beginsName_53 : decode prog_10_method_35_code 53 = .ok (.bipush (66), 2) := dd_at dd_Pa_beginsName 6 rfl
theorem d_Pa_beginsName_55 : decode prog_10_method_35_code 55 = .ok (.if_icmp .ne (7), 3) := dd_at dd_Pa_beginsName 7 rfl
theorem d_Pa_beginsName_58 : decode prog_10_method_35_code 58 = .ok (.iconst 1, 1) := dd_at dd_Pa_beginsName 8 rfl
theorem d_Pa_beginsName_59 : decode prog_10_method_35_code 59 = .ok (.goto (4), 3) := dd_at dd_Pa_beginsName 9 rfl
theorem d_Pa_beginsName_62 : decode prog_10_method_35_code 62 = .ok (.iconst 0, 1) := dd_at dd_Pa_beginsName 10 rfl
theorem d_Pa_beginsName_63 : decode prog_10_method_35_code 63 = .ok (.ireturn, 1) := dd_at dd_Pa_beginsName 11 rfl
theorem d_Pa_beginsName_64 : decode prog_10_method_35_code 64 = .ok (.aload_n 0, 1) := dd_at dd_Pa_beginsName 12 rfl
theorem d_Pa_beginsName_65 : decode prog_10_method_35_code 65 = .ok (.iconst 1, 1) := dd_at dd_Pa_beginsName 13 rfl
theorem d_Pa_beginsName_66 : decode prog_10_method_35_code 66 = .ok (.invokevirtual 96, 3) := dd_at dd_Pa_beginsName 14 rfl
theorem d_Pa_beginsName_69 : decode prog_10_method_35_code 69 = .ok (.bipush (78), 2) := dd_at dd_Pa_beginsName 15 rfl
theorem d_Pa_beginsName_71 : decode prog_10_method_35_code 71 = .ok (.if_icmp .ne (7), 3) := dd_at dd_Pa_beginsName 16 rfl
theorem d_Pa_beginsName_74 : decode prog_10_method_35_code 74 = .ok (.iconst 1, 1) := dd_at dd_Pa_beginsName 17 rfl
theorem d_Pa_beginsName_75 : decode prog_10_method_35_code 75 = .ok (.goto (4), 3) := dd_at dd_Pa_beginsName 18 rfl
theorem d_Pa_beginsName_78 : decode prog_10_method_35_code 78 = .ok (.iconst 0, 1) := dd_at dd_Pa_beginsName 19 rfl
theorem d_Pa_beginsName_79 : decode prog_10_method_35_code 79 = .ok (.ireturn, 1) := dd_at dd_Pa_beginsName 20 rfl
theorem d_Pa_beginsName_80 : decode prog_10_method_35_code 80 = .ok (.aload_n 0, 1) := dd_at dd_Pa_beginsName 21 rfl
theorem d_Pa_beginsName_81 : decode prog_10_method_35_code 81 = .ok (.iconst 1, 1) := dd_at dd_Pa_beginsName 22 rfl
theorem d_Pa_beginsName_82 : decode prog_10_method_35_code 82 = .ok (.invokevirtual 96, 3) := dd_at dd_Pa_beginsName 23 rfl
theorem d_Pa_beginsName_85 : decode prog_10_method_35_code 85 = .ok (.bipush (78), 2) := dd_at dd_Pa_beginsName 24 rfl
theorem d_Pa_beginsName_87 : decode prog_10_method_35_code 87 = .ok (.if_icmp .ne (7), 3) := dd_at dd_Pa_beginsName 25 rfl
theorem d_Pa_beginsName_90 : decode prog_10_method_35_code 90 = .ok (.iconst 1, 1) := dd_at dd_Pa_beginsName 26 rfl
theorem d_Pa_beginsName_91 : decode prog_10_method_35_code 91 = .ok (.goto (4), 3) := dd_at dd_Pa_beginsName 27 rfl
theorem d_Pa_beginsName_94 : decode prog_10_method_35_code 94 = .ok (.iconst 0, 1) := dd_at dd_Pa_beginsName 28 rfl
theorem d_Pa_beginsName_95 : decode prog_10_method_35_code 95 = .ok (.ireturn, 1) := dd_at dd_Pa_beginsName 29 rfl
theorem d_Pa_beginsName_96 : decode prog_10_method_35_code 96 = .ok (.aload_n 0, 1) := dd_at dd_Pa_beginsName 30 rfl
theorem d_Pa_beginsName_97 : decode prog_10_method_35_code 97 = .ok (.iconst 1, 1) := dd_at dd_Pa_beginsName 31 rfl
theorem d_Pa_beginsName_98 : decode prog_10_method_35_code 98 = .ok (.invokevirtual 96, 3) := dd_at dd_Pa_beginsName 32 rfl
theorem d_Pa_beginsName_101 : decode prog_10_method_35_code 101 = .ok (.bipush (71), 2) := dd_at dd_Pa_beginsName 33 rfl
theorem d_Pa_beginsName_103 : decode prog_10_method_35_code 103 = .ok (.if_icmp .ne (37), 3) := dd_at dd_Pa_beginsName 34 rfl
theorem d_Pa_beginsName_106 : decode prog_10_method_35_code 106 = .ok (.aload_n 0, 1) := dd_at dd_Pa_beginsName 35 rfl
theorem d_Pa_beginsName_107 : decode prog_10_method_35_code 107 = .ok (.getfield 12, 3) := dd_at dd_Pa_beginsName 36 rfl
theorem d_Pa_beginsName_110 : decode prog_10_method_35_code 110 = .ok (.getfield 86, 3) := dd_at dd_Pa_beginsName 37 rfl
theorem d_Pa_beginsName_113 : decode prog_10_method_35_code 113 = .ok (.getstatic 285, 3) := dd_at dd_Pa_beginsName 38 rfl
theorem d_Pa_beginsName_116 : decode prog_10_method_35_code 116 = .ok (.if_acmp .ne (20), 3) := dd_at dd_Pa_beginsName 39 rfl
theorem d_Pa_beginsName_119 : decode prog_10_method_35_code 119 = .ok (.aload_n 0, 1) := dd_at dd_Pa_beginsName 40 rfl
theorem d_Pa_beginsName_120 : decode prog_10_method_35_code 120 = .ok (.getfield 30, 3) := dd_at dd_Pa_beginsName 41 rfl
theorem d_Pa_beginsName_123 : decode prog_10_method_35_code 123 = .ok (.ifCond .gt (13), 3) := dd_at dd_Pa_beginsName 42 rfl
theorem d_Pa_beginsName_126 : decode prog_10_method_35_code 126 = .ok (.aload_n 0, 1) := dd_at dd_Pa_beginsName 43 rfl
theorem d_Pa_beginsName_127 : decode prog_10_method_35_code 127 = .ok (.iconst 2, 1) := dd_at dd_Pa_beginsName 44 rfl
theorem d_Pa_beginsName_128 : decode prog_10_method_35_code 128 = .ok (.invokevirtual 96, 3) := dd_at dd_Pa_beginsName 45 rfl
theorem d_Pa_beginsName_131 : decode prog_10_method_35_code 131 = .ok (.bipush (78), 2) := dd_at dd_Pa_beginsName 46 rfl
theorem d_Pa_beginsName_133 : decode prog_10_method_35_code 133 = .ok (.if_icmp .ne (7), 3) := dd_at dd_Pa_beginsName 47 rfl
theorem d_Pa_beginsName_136 : decode prog_10_method_35_code 136 = .ok (.iconst 1, 1) := dd_at dd_Pa_beginsName 48 rfl
theorem d_Pa_beginsName_137 : decode prog_10_method_35_code 137 = .ok (.goto (4), 3) := dd_at dd_Pa_beginsName 49 rfl
theorem d_Pa_beginsName_140 : decode prog_10_method_35_code 140 = .ok (.iconst 0, 1) := dd_at dd_Pa_beginsName 50 rfl
theorem d_Pa_beginsName_141 : decode prog_10_method_35_code 141 = .ok (.ireturn, 1) := dd_at dd_Pa_beginsName 51 rfl
theorem d_Pa_beginsName_142 : decode prog_10_method_35_code 142 = .ok (.iconst 0, 1) := dd_at dd_Pa_beginsName 52 rfl
theorem d_Pa_beginsName_143 : decode prog_10_method_35_code 143 = .ok (.ireturn, 1) := dd_at dd_Pa_beginsName 53 rfl
def ld_Pa_openBracket : List (Nat × Instr × Nat) := [(0, .aload_n 0, 1), (1, .getfield 30, 3), (4, .bipush (6), 2), (6, .if_icmp .ge (12), 3), (9, .aload_n 0, 1), (10, .bipush (40), 2), (12, .invokevirtual 68, 3), (15, .ifCond .ne (5), 3), (18, .iconst 0, 1), (19, .ireturn, 1), (20, .aload_n 0, 1), (21, .dup, 1), (22, .getfield 30, 3), (25, .iconst 1, 1), (26, .iadd, 1), (27, .putfield 30, 3), (30, .iconst 1, 1), (31, .ireturn, 1)]
theorem dd_Pa_openBracket : (ld_Pa_openBracket).all (dOK prog_10_method_40_code) = true := by decide +kernel
theorem d_Pa_openBracket_0 : decode prog_10_method_40_code 0 = .ok (.aload_n 0, 1) := dd_at dd_Pa_openBracket 0 rfl
theorem d_Pa_openBracket_1 : decode prog_10_method_40_code 1 = .ok (.getfield 30, 3) := dd_at dd_Pa_openBracket 1 rfl
theorem d_Pa_openBracket_4 : decode prog_10_method_40_code 4 = .ok (.bipush (6), 2) := dd_at dd_Pa_openBracket 2 rfl
theorem d_Pa_openBracket_6 : decode prog_10_method_40_code 6 = .ok (.if_icmp .ge (12), 3) := dd_at dd_Pa_openBracket 3 rfl
theorem d_Pa_openBracket_9 : decode prog_10_method_40_code 9 = .ok (.aload_n 0, 1) := dd_at dd_Pa_openBracket 4 rfl
theorem d_Pa_openBracket_10 : decode prog_10_method_40_code 10 = .ok (.bipush (40), 2) := dd_at dd_Pa_openBracket 5 rfl
theorem d_Pa_openBracket_12 : decode prog_10_method_40_code 12 = .ok (.invokevirtual 68, 3) := dd_at dd_Pa_openBracket 6 rfl
theorem d_Pa_openBracket_15 : decode prog_10_method_40_code 15 = .ok (.ifCond .ne (5), 3) := dd_at dd_Pa_openBracket 7 rfl
theorem d_Pa_openBracket_18 : decode prog_10_method_40_code 18 = .ok (.iconst 0, 1) := dd_at dd_Pa_openBracket 8 rfl
theorem d_Pa_openBracket_19 : decode prog_10_method_40_code 19 = .ok (.ireturn, 1) := dd_at dd_Pa_openBracket 9 rfl
theorem d_Pa_openBracket_20 : decode prog_10_method_40_code 20 = .ok (.aload_n 0, 1) := dd_at dd_Pa_openBracket 10 rfl
theorem d_Pa_openBracket_21 : decode prog_10_method_40_code 21 = .ok (.dup, 1) := dd_at dd_Pa_openBracket 11 rfl
theorem d_Pa_openBracket_22 : decode prog_10_method_40_code 22 = .ok (.getfield 30, 3) := dd_at dd_Pa_openBracket 12 rfl
theorem d_Pa_openBracket_25 : decode prog_10_method_40_code 25 = .ok (.iconst 1, 1) := dd_at dd_Pa_openBracket 13 rfl
theorem d_Pa_openBracket_26 : decode prog_10_method_40_code 26 = .ok (.iadd, 1) := dd_at dd_Pa_openBracket 14 rfl
theorem d_Pa_openBracket_27 : decode prog_10_method_40_code 27 = .ok (.putfield 30, 3) := dd_at dd_Pa_openBracket 15 rfl
theorem d_Pa_openBracket_30 : decode prog_10_method_40_code 30 = .ok (.iconst 1, 1) := dd_at dd_Pa_openBracket 16 rfl
theorem d_Pa_openBracket_31 : decode prog_10_method_40_code 31 = .ok (.ireturn, 1) := dd_at dd_Pa_openBracket 17 rfl
def ld_Pa_closeBracket : List (Nat × Instr × Nat) := [(0, .aload_n 0, 1), (1, .bipush (41), 2), (3, .invokevirtual 68, 3), (6, .ifCond .ne (5), 3), (9, .iconst 0, 1), (10, .ireturn, 1), (11, .aload_n 0, 1), (12, .dup, 1), (13, .getfield 30, 3), (16, .iconst 1, 1), (17, .isub, 1), (18, .putfield 30, 3), (21, .iconst 1, 1), (22, .ireturn, 1)]
theorem dd_Pa_closeBracket : (ld_Pa_closeBracket).all (dOK prog_10_method_41_code) = true := by decide +kernel
theorem d_Pa_closeBracket_0 : decode prog_10_method_41_code 0 = .ok (.aload_n 0, 1) := dd_at dd_Pa_closeBracket 0 rfl
theorem d_Pa_closeBracket_1 : decode prog_10_method_41_code 1 = .ok (.bipush (41), 2) := dd_at dd_Pa_closeBracket 1 rfl
theorem d_Pa_closeBracket_3 : decode prog_10_method_41_code 3 = .ok (.invokevirtual 68, 3) := dd_at dd_Pa_closeBracket 2 rfl
theorem d_Pa_closeBracket_6 : decode prog_10_method_41_code 6 = .ok (.ifCond .ne (5), 3) := dd_at dd_Pa_closeBracket 3 rfl
theorem d_Pa_closeBracket_9 : decode prog_10_method_41_code 9 = .ok (.iconst 0, 1) := dd_at dd_Pa_closeBracket 4 rfl
theorem d_Pa_closeBracket_10 : decode prog_10_method_41_code 10 = .ok (.ireturn, 1) := dd_at dd_Pa_closeBracket 5 rfl
theorem d_Pa_closeBracket_11 : decode prog_10_method_41_code 11 = .ok (.aload_n 0, 1) := dd_at dd_Pa_closeBracket 6 rfl
theorem d_Pa_closeBracket_12 : decode prog_10_method_41_code 12 = .ok (.dup, 1) := dd_at dd_Pa_closeBracket 7 rfl
theorem d_Pa_closeBracket_13 : decode prog_10_method_41_code 13 = .ok (.getfield 30, 3) := dd_at dd_Pa_closeBracket 8 rfl
theorem d_Pa_closeBracket_16 : decode prog_10_method_41_code 16 = .ok (.iconst 1, 1) := dd_at dd_Pa_closeBracket 9 rfl
theorem d_Pa_closeBracket_17 : decode prog_10_method_41_code 17 = .ok (.isub, 1) := dd_at dd_Pa_closeBracket 10 rfl
theorem d_Pa_closeBracket_18 : decode prog_10_method_41_code 18 = .ok (.putfield 30, 3) := dd_at dd_Pa_closeBracket 11 rfl
theorem d_Pa_closeBracket_21 : decode prog_10_method_41_code 21 = .ok (.iconst 1, 1) := dd_at dd_Pa_closeBracket 12 rfl
theorem d_Pa_closeBracket_22 : decode prog_10_method_41_code 22 = .ok (.ireturn, 1) := dd_at dd_Pa_closeBracket 13 rfl
def ld_Ma_gatherData : List (Nat × Instr × Nat) := [(0, .aload_n 1, 1), (1, .ifnull (13), 3), (4, .aload_n 1, 1), (5, .getfield 114, 3), (8, .getstatic 118, 3), (11, .if_acmp .eq (4), 3), (14, .return_, 1), (15, .iconst 0, 1), (16, .istore_n 2, 1), (17, .iload_n 2, 1), (18, .aload_n 1, 1), (19, .getfield 123, 3), (22, .if_icmp .ge (50), 3), (25, .aload_n 0, 1), (26, .getfield 104, 3), (29, .aload_n 0, 1), (30, .getfield 44, 3), (33, .arraylength, 1), (34, .if_icmp .ge (38), 3), (37, .aload_n 0, 1), (38, .getfield 44, 3), (41, .aload_n 0, 1), (42, .getfield 104, 3), (45, .aload_n 1, 1), (46, .iload_n 2, 1), (47, .invokevirtual 126, 3), (50, .i2d, 1), (51, .ldc2_w 130, 3), (54, .ddiv, 1), (55, .dastore, 1), (56, .aload_n 0, 1), (57, .dup, 1), (58, .getfield 104, 3), (61, .iconst 1, 1), (62, .iadd, 1), (63, .putfield 104, 3), (66, .iinc 2 (1), 3), (69, .goto (-52), 3), (72, .return_, 1)]
theorem dd_Ma_gatherData : (ld_Ma_gatherData).all (dOK prog_8_method_4_code) = true := by decide +kernel
theorem d_Ma_gatherData_0 : decode prog_8_method_4_code 0 = .ok (.aload_n 1, 1) := dd_at dd_Ma_gatherData 0 rfl
theorem d_Ma_gatherData_1 : decode prog_8_method_4_code 1 = .ok (.ifnull (13), 3) := dd_at dd_Ma_gatherData 1 rfl
theorem d_Ma_gatherData_4 : decode prog_8_method_4_code 4 = .ok (.aload_n 1, 1) := dd_at dd_Ma_gatherData 2 rfl
theorem d_Ma_gatherData_5 : decode prog_8_method_4_code 5 = .ok (.getfield 114, 3) := dd_at dd_Ma_gatherData 3 rfl
theorem d_Ma_gatherData_8 : decode prog_8_method_4_code 8 = .ok (.getstatic 118, 3) := dd_at dd_Ma_gatherData 4 rfl
theorem d_Ma_gatherData_11 : decode prog_8_method_4_code 11 = .ok (.if_acmp .eq (4), 3) := dd_at dd_Ma_gatherData 5 rfl
theorem d_Ma_gatherData_14 : decode prog_8_method_4_code 14 = .ok (.return_, 1) := dd_at dd_Ma_gatherData 6 rfl
theorem d_Ma_gatherData_15 : decode prog_8_method_4_code 15 = .ok (.iconst 0, 1) := dd_at dd_Ma_gatherData 7 rfl
theorem d_Ma_gatherData_16 : decode prog_8_method_4_code 16 = .ok (.istore_n 2, 1) := dd_at dd_Ma_gatherData 8 rfl
theorem d_Ma_gatherData_17 : decode prog_8_method_4_code 17 = .ok (.iload_n 2, 1) := dd_at dd_Ma_gatherData 9 rfl
theorem d_Ma_gatherData_18 : decode prog_8_method_4_code 18 = .ok (.aload_n 1, 1) := dd_at dd_Ma_gatherData 10 rfl
theorem d_Ma_gatherData_19 : decode prog_8_method_4_code 19 = .ok (.getfield 123, 3) := dd_at dd_Ma_gatherData 11 rfl
theorem d_Ma_gatherData_22 : decode prog_8_method_4_code 22 = .ok (.if_icmp .ge (50), 3) := dd_at dd_Ma_gatherData 12 rfl
theorem d_Ma_gatherData_25 : decode prog_8_method_4_code 25 = .ok (.aload_n 0, 1) := dd_at dd_Ma_gatherData 13 rfl
theorem d_Ma_gatherData_26 : decode prog_8_method_4_code 26 = .ok (.getfield 104, 3) := dd_at dd_Ma_gatherData 14 rfl
theorem d_Ma_gatherData_29 : decode prog_8_method_4_code 29 = .ok (.aload_n 0, 1) := dd_at dd_Ma_gatherData 15 rfl
theorem d_Ma_gatherData_30 : decode prog_8_method_4_code 30 = .ok (.getfield 44, 3) := dd_at dd_Ma_gatherData 16 rfl
theorem d_Ma_gatherData_33 : decode prog_8_method_4_code 33 = .ok (.arraylength, 1) := dd_at dd_Ma_gatherData 17 rfl
theorem d_Ma_gatherData_34 : decode prog_8_method_4_code 34 = .ok (.if_icmp .ge (38), 3) := dd_at dd_Ma_gatherData 18 rfl
theorem d_Ma_gatherData_37 : decode prog_8_method_4_code 37 = .ok (.aload_n 0, 1) := dd_at dd_Ma_gatherData 19 rfl
theorem d_Ma_gatherData_38 : decode prog_8_method_4_code 38 = .ok (.getfield 44, 3) := dd_at dd_Ma_gatherData 20 rfl
theorem d_Ma_gatherData_41 : decode prog_8_method_4_code 41 = .ok (.aload_n 0, 1) := dd_at dd_Ma_gatherData 21 rfl
theorem d_Ma_gatherData_42 : decode prog_8_method_4_code 42 = .ok (.getfield 104, 3) := dd_at dd_Ma_gatherData 22 rfl
theorem d_Ma_gatherData_45 : decode prog_8_method_4_code 45 = .ok (.aload_n 1, 1) := dd_at dd_Ma_gatherData 23 rfl
theorem d_Ma_gatherData_46 : decode prog_8_method_4_code 46 = .ok (.iload_n 2, 1) := dd_at dd_Ma_gatherData 24 rfl
theorem d_Ma_gatherData_47 : decode prog_8_method_4_code 47 = .ok (.invokevirtual 126, 3) := dd_at dd_Ma_gatherData 25 rfl
theorem d_Ma_gatherData_50 : decode prog_8_method_4_code 50 = .ok (.i2d, 1) := dd_at dd_Ma_gatherData 26 rfl
theorem d_Ma_gatherData_51 : decode prog_8_method_4_code 51 = .ok (.ldc2_w 130, 3) := dd_at dd_Ma_gatherData 27 rfl
theorem d_Ma_gatherData_54 : decode prog_8_method_4_code 54 = .ok (.ddiv, 1) := dd_at dd_Ma_gatherData 28 rfl
theorem d_Ma_gatherData_55 : decode prog_8_method_4_code 55 = .ok (.dastore, 1) := dd_at dd_Ma_gatherData 29 rfl
theorem d_Ma_gatherData_56 : decode prog_8_method_4_code 56 = .ok (.aload_n 0, 1) := dd_at dd_Ma_gatherData 30 rfl
theorem d_Ma_gatherData_57 : decode prog_8_method_4_code 57 = .ok (.dup, 1) := dd_at dd_Ma_gatherData 31 rfl
theorem d_Ma_gatherData_58 : decode prog_8_method_4_code 58 = .ok (.getfield 104, 3) := dd_at dd_Ma_gatherData 32 rfl
theorem d_Ma_gatherData_61 : decode prog_8_method_4_code 61 = .ok (.iconst 1, 1) := dd_at dd_Ma_gatherData 33 rfl
theorem d_Ma_gatherData_62 : decode prog_8_method_4_code 62 = .ok (.iadd, 1) := dd_at dd_Ma_gatherData 34 rfl
theorem d_Ma_gatherData_63 : decode prog_8_method_4_code 63 = .ok (.putfield 104, 3) := dd_at dd_Ma_gatherData 35 rfl
theorem d_Ma_gatherData_66 : decode prog_8_method_4_code 66 = .ok (.iinc 2 (1), 3) := dd_at dd_Ma_gatherData 36 rfl
theorem d_Ma_gatherData_69 : decode prog_8_method_4_code 69 = .ok (.goto (-52), 3) := dd_at dd_Ma_gatherData 37 rfl
theorem d_Ma_gatherData_72 : decode prog_8_method_4_code 72 = .ok (.return_, 1) := dd_at dd_Ma_gatherData 38 rfl
def ld_Ma_store : List (Nat × Instr × Nat) := [(0, .aload_n 0, 1), (1, .getfield 21, 3), (4, .invokevirtual 72, 3), (7, .ifCond .ne (4), 3), (10, .return_, 1), (11, .aload_n 1, 1), (12, .getfield 205, 3), (15, .ifCond .eq (22), 3), (18, .aload_n 0, 1), (19, .getfield 21, 3), (22, .aload_n 1, 1), (23, .getfield 176, 3), (26, .invokevirtual 185, 3), (29, .iload_n 2, 1), (30, .dload_n 3, 1), (31, .invokevirtual 223, 3), (34, .goto (15), 3), (37, .aload_n 0, 1), (38, .getfield 21, 3), (41, .aload_n 1, 1), (42, .getfield 176, 3), (45, .dload_n 3, 1), (46, .invokevirtual 227, 3), (49, .return_, 1)]
theorem dd_Ma_store : (ld_Ma_store).all (dOK prog_8_method_9_code) = true := by decide +kernel
theorem d_Ma_store_0 : decode prog_8_method_9_code 0 = .ok (.aload_n 0, 1) := dd_at dd_Ma_store 0 rfl
theorem d_Ma_store_1 : decode prog_8_method_9_code 1 = .ok (.getfield 21, 3) := dd_at dd_Ma_store 1 rfl
theorem d_Ma_store_4 : decode prog_8_method_9_code 4 = .ok (.invokevirtual 72, 3) := dd_at dd_Ma_store 2 rfl
theorem d_Ma_store_7 : decode prog_8_method_9_code 7 = .ok (.ifCond .ne (4), 3) := dd_at dd_Ma_store 3 rfl
theorem d_Ma_store_10 : decode prog_8_method_9_code 10 = .ok (.return_, 1) := dd_at dd_Ma_store 4 rfl
theorem d_Ma_store_11 : decode prog_8_method_9_code 11 = .ok (.aload_n 1, 1) := dd_at dd_Ma_store 5 rfl
theorem d_Ma_store_12 : decode prog_8_method_9_code 12 = .ok (.getfield 205, 3) := dd_at dd_Ma_store 6 rfl
theorem d_Ma_store_15 : decode prog_8_method_9_code 15 = .ok (.ifCond .eq (22), 3) := dd_at dd_Ma_store 7 rfl
theorem d_Ma_store_18 : decode prog_8_method_9_code 18 = .ok (.aload_n 0, 1) := dd_at dd_Ma_store 8 rfl
theorem d_Ma_store_19 : decode prog_8_method_9_code 19 = .ok (.getfield 21, 3) := dd_at dd_Ma_store 9 rfl
theorem d_Ma_store_22 : decode prog_8_method_9_code 22 = .ok (.aload_n 1, 1) := dd_at dd_Ma_store 10 rfl
theorem d_Ma_store_23 : decode prog_8_method_9_code 23 = .ok (.getfield 176, 3) := dd_at dd_Ma_store 11 rfl
theorem d_Ma_store_26 : decode prog_8_method_9_code 26 = .ok (.invokevirtual 185, 3) := dd_at dd_Ma_store 12 rfl
theorem d_Ma_store_29 : decode prog_8_method_9_code 29 = .ok (.iload_n 2, 1) := dd_at dd_Ma_store 13 rfl
theorem d_Ma_store_30 : decode prog_8_method_9_code 30 = .ok (.dload_n 3, 1) := dd_at dd_Ma_store 14 rfl
theorem d_Ma_store_31 : decode prog_8_method_9_code 31 = .ok (.invokevirtual 223, 3) := dd_at dd_Ma_store 15 rfl
theorem d_Ma_store_34 : decode prog_8_method_9_code 34 = .ok (.goto (15), 3) := dd_at dd_Ma_store 16 rfl
theorem d_Ma_store_37 : decode prog_8_method_9_code 37 = .ok (.aload_n 0, 1) := dd_at dd_Ma_store 17 rfl
theorem d_Ma_store_38 : decode prog_8_method_9_code 38 = .ok (.getfield 21, 3) := dd_at dd_Ma_store 18 rfl
theorem d_Ma_store_41 : decode prog_8_method_9_code 41 = .ok (.aload_n 1, 1) := dd_at dd_Ma_store 19 rfl
theorem d_Ma_store_42 : decode prog_8_method_9_code 42 = .ok (.getfield 176, 3) := dd_at dd_Ma_store 20 rfl
theorem d_Ma_store_45 : decode prog_8_method_9_code 45 = .ok (.dload_n 3, 1) := dd_at dd_Ma_store 21 rfl
theorem d_Ma_store_46 : decode prog_8_method_9_code 46 = .ok (.invokevirtual 227, 3) := dd_at dd_Ma_store 22 rfl
theorem d_Ma_store_49 : decode prog_8_method_9_code 49 = .ok (.return_, 1) := dd_at dd_Ma_store 23 rfl
def ld_Ma_print : List (Nat × Instr × Nat) := [(0, .aload_n 0, 1), (1, .getfield 21, 3), (4, .invokevirtual 72, 3), (7, .ifCond .ne (4), 3), (10, .return_, 1), (11, .aload_n 0, 1), (12, .getfield 101, 3), (15, .aload_n 0, 1), (16, .getfield 32, 3), (19, .arraylength, 1), (20, .if_icmp .ge (13), 3), (23, .aload_n 0, 1), (24, .getfield 32, 3), (27, .aload_n 0, 1), (28, .getfield 101, 3), (31, .dload_n 1, 1), (32, .dastore, 1), (33, .aload_n 0, 1), (34, .dup, 1), (35, .getfield 101, 3), (38, .iconst 1, 1), (39, .iadd, 1), (40, .putfield 101, 3), (43, .return_, 1)]
theorem dd_Ma_print : (ld_Ma_print).all (dOK prog_8_method_10_code) = true := by decide +kernel
theorem d_Ma_print_0 : decode prog_8_method_10_code 0 = .ok (.aload_n 0, 1) := dd_at dd_Ma_print 0 rfl
theorem d_Ma_print_1 : decode prog_8_method_10_code 1 = .ok (.getfield 21, 3) := dd_at dd_Ma_print 1 rfl
theorem d_Ma_print_4 : decode prog_8_method_10_code 4 = .ok (.invokevirtual 72, 3) := dd_at dd_Ma_print 2 rfl
theorem d_Ma_print_7 : decode prog_8_method_10_code 7 = .ok (.ifCond .ne (4), 3) := dd_at dd_Ma_print 3 rfl
theorem d_Ma_print_10 : decode prog_8_method_10_code 10 = .ok (.return_, 1) := dd_at dd_Ma_print 4 rfl
theorem d_Ma_print_11 : decode prog_8_method_10_code 11 = .ok (.aload_n 0, 1) := dd_at dd_Ma_print 5 rfl
theorem d_Ma_print_12 : decode prog_8_method_10_code 12 = .ok (.getfield 101, 3) := dd_at dd_Ma_print 6 rfl
theorem d_Ma_print_15 : decode prog_8_method_10_code 15 = .ok (.aload_n 0, 1) := dd_at dd_Ma_print 7 rfl
theorem d_Ma_print_16 : decode prog_8_method_10_code 16 = .ok (.getfield 32, 3) := dd_at dd_Ma_print 8 rfl
theorem d_Ma_print_19 : decode prog_8_method_10_code 19 = .ok (.arraylength, 1) := dd_at dd_Ma_print 9 rfl
theorem d_Ma_print_20 : decode prog_8_method_10_code 20 = .ok (.if_icmp .ge (13), 3) := dd_at dd_Ma_print 10 rfl
theorem d_Ma_print_23 : decode prog_8_method_10_code 23 = .ok (.aload_n 0, 1) := dd_at dd_Ma_print 11 rfl
theorem d_Ma_print_24 : decode prog_8_method_10_code 24 = .ok (.getfield 32, 3) := dd_at dd_Ma_print 12 rfl
theorem d_Ma_print_27 : decode prog_8_method_10_code 27 = .ok (.aload_n 0, 1) := dd_at dd_Ma_print 13 rfl
theorem d_Ma_print_28 : decode prog_8_method_10_code 28 = .ok (.getfield 101, 3) := dd_at dd_Ma_print 14 rfl
theorem d_Ma_print_31 : decode prog_8_method_10_code 31 = .ok (.dload_n 1, 1) := dd_at dd_Ma_print 15 rfl
theorem d_Ma_print_32 : decode prog_8_method_10_code 32 = .ok (.dastore, 1) := dd_at dd_Ma_print 16 rfl
theorem d_Ma_print_33 : decode prog_8_method_10_code 33 = .ok (.aload_n 0, 1) := dd_at dd_Ma_print 17 rfl
theorem d_Ma_print_34 : decode prog_8_method_10_code 34 = .ok (.dup, 1) := dd_at dd_Ma_print 18 rfl
theorem d_Ma_print_35 : decode prog_8_method_10_code 35 = .ok (.getfield 101, 3) := dd_at dd_Ma_print 19 rfl
theorem d_Ma_print_38 : decode prog_8_method_10_code 38 = .ok (.iconst 1, 1) := dd_at dd_Ma_print 20 rfl
theorem d_Ma_print_39 : decode prog_8_method_10_code 39 = .ok (.iadd, 1) := dd_at dd_Ma_print 21 rfl
theorem d_Ma_print_40 : decode prog_8_method_10_code 40 = .ok (.putfield 101, 3) := dd_at dd_Ma_print 22 rfl
theorem d_Ma_print_43 : decode prog_8_method_10_code 43 = .ok (.return_, 1) := dd_at dd_Ma_print 23 rfl
def ld_Ma_goTo : List (Nat × Instr × Nat) := [(0, .aload_n 0, 1), (1, .getfield 12, 3), (4, .iload_n 1, 1), (5, .invokevirtual 228, 3), (8, .istore_n 2, 1), (9, .iload_n 2, 1), (10, .ifCond .ge (14), 3), (13, .aload_n 0, 1), (14, .getfield 21, 3), (17, .getstatic 220, 3), (20, .invokevirtual 82, 3), (23, .return_, 1), (24, .aload_n 0, 1), (25, .iload_n 2, 1), (26, .putfield 50, 3), (29, .return_, 1)]
theorem dd_Ma_goTo : (ld_Ma_goTo).all (dOK prog_8_method_11_code) = true := by decide +kernel
theorem d_Ma_goTo_0 : decode prog_8_method_11_code 0 = .ok (.aload_n 0, 1) := dd_at dd_Ma_goTo 0 rfl
theorem d_Ma_goTo_1 : decode prog_8_method_11_code 1 = .ok (.getfield 12, 3) := dd_at dd_Ma_goTo 1 rfl
theorem d_Ma_goTo_4 : decode prog_8_method_11_code 4 = .ok (.iload_n 1, 1) := dd_at dd_Ma_goTo 2 rfl
theorem d_Ma_goTo_5 : decode prog_8_method_11_code 5 = .ok (.invokevirtual 228, 3) := dd_at dd_Ma_goTo 3 rfl
theorem d_Ma_goTo_8 : decode prog_8_method_11_code 8 = .ok (.istore_n 2, 1) := dd_at dd_Ma_goTo 4 rfl
theorem d_Ma_goTo_9 : decode prog_8_method_11_code 9 = .ok (.iload_n 2, 1) := dd_at dd_Ma_goTo 5 rfl
theorem d_Ma_goTo_10 : decode prog_8_method_11_code 10 = .ok (.ifCond .ge (14), 3) := dd_at dd_Ma_goTo 6 rfl
theorem d_Ma_goTo_13 : decode prog_8_method_11_code 13 = .ok (.aload_n 0, 1) := dd_at dd_Ma_goTo 7 rfl
theorem d_Ma_goTo_14 : decode prog_8_method_11_code 14 = .ok (.getfield 21, 3) := dd_at dd_Ma_goTo 8 rfl
theorem d_Ma_goTo_17 : decode prog_8_method_11_code 17 = .ok (.getstatic 220, 3) := dd_at dd_Ma_goTo 9 rfl
theorem d_Ma_goTo_20 : decode prog_8_method_11_code 20 = .ok (.invokevirtual 82, 3) := dd_at dd_Ma_goTo 10 rfl
theorem d_Ma_goTo_23 : decode prog_8_method_11_code 23 = .ok (.return_, 1) := dd_at dd_Ma_goTo 11 rfl
theorem d_Ma_goTo_24 : decode prog_8_method_11_code 24 = .ok (.aload_n 0, 1) := dd_at dd_Ma_goTo 12 rfl
theorem d_Ma_goTo_25 : decode prog_8_method_11_code 25 = .ok (.iload_n 2, 1) := dd_at dd_Ma_goTo 13 rfl
theorem d_Ma_goTo_26 : decode prog_8_method_11_code 26 = .ok (.putfield 50, 3) := dd_at dd_Ma_goTo 14 rfl
theorem d_Ma_goTo_29 : decode prog_8_method_11_code 29 = .ok (.return_, 1) := dd_at dd_Ma_goTo 15 rfl
def ld_Ma_goSub : List (Nat × Instr × Nat) := [(0, .aload_n 0, 1), (1, .getfield 98, 3), (4, .aload_n 0, 1), (5, .getfield 40, 3), (8, .arraylength, 1), (9, .if_icmp .lt (14), 3), (12, .aload_n 0, 1), (13, .getfield 21, 3), (16, .getstatic 76, 3), (19, .invokevirtual 82, 3), (22, .return_, 1), (23, .aload_n 0, 1), (24, .iload_n 1, 1), (25, .invokevirtual 160, 3), (28, .aload_n 0, 1), (29, .getfield 21, 3), (32, .invokevirtual 72, 3), (35, .ifCond .eq (28), 3), (38, .aload_n 0, 1), (39, .getfield 40, 3), (42, .aload_n 0, 1), (43, .getfield 98, 3), (46, .aload_n 0, 1), (47, .getfield 65, 3), (50, .iconst 1, 1), (51, .iadd, 1), (52, .iastore, 1), (53, .aload_n 0, 1), (54, .dup, 1), (55, .getfield 98, 3), (58, .iconst 1, 1), (59, .iadd, 1), (60, .putfield 98, 3), (63, .return_, 1)]
theorem dd_Ma_goSub : (ld_Ma_goSub).all (dOK prog_8_method_14_code) = true := by decide +kernel
theorem d_Ma_goSub_0 : decode prog_8_method_14_code 0 = .ok (.aload_n 0, 1) := dd_at dd_Ma_goSub 0 rfl
theorem d_Ma_goSub_1 : decode prog_8_method_14_code 1 = .ok (.getfield 98, 3) := dd_at dd_Ma_goSub 1 rfl
theorem d_Ma_goSub_4 : decode prog_8_method_14_code 4 = .ok (.aload_n 0, 1) := dd_at dd_Ma_goSub 2 rfl
theorem d_Ma_goSub_5 : decode prog_8_method_14_code 5 = .ok (.getfield 40, 3) := dd_at dd_Ma_goSub 3 rfl
theorem d_Ma_goSub_8 : decode prog_8_method_14_code 8 = .ok (.arraylength, 1) := dd_at dd_Ma_goSub 4 rfl
theorem d_Ma_goSub_9 : decode prog_8_method_14_code 9 = .ok (.if_icmp .lt (14), 3) := dd_at dd_Ma_goSub 5 rfl
theorem d_Ma_goSub_12 : decode prog_8_method_14_code 12 = .ok (.aload_n 0, 1) := dd_at dd_Ma_goSub 6 rfl
theorem d_Ma_goSub_13 : decode prog_8_method_14_code 13 = .ok (.getfield 21, 3) := dd_at dd_Ma_goSub 7 rfl
theorem d_Ma_goSub_16 : decode prog_8_method_14_code 16 = .ok (.getstatic 76, 3) := dd_at dd_Ma_goSub 8 rfl
theorem d_Ma_goSub_19 : decode prog_8_method_14_code 19 = .ok (.invokevirtual 82, 3) := dd_at dd_Ma_goSub 9 rfl
theorem d_Ma_goSub_22 : decode prog_8_method_14_code 22 = .ok (.return_, 1) := dd_at dd_Ma_goSub 10 rfl
theorem d_Ma_goSub_23 : decode prog_8_method_14_code 23 = .ok (.aload_n 0, 1) := dd_at dd_Ma_goSub 11 rfl
theorem d_Ma_goSub_24 : decode prog_8_method_14_code 24 = .ok (.iload_n 1, 1) := dd_at dd_Ma_goSub 12 rfl
theorem d_Ma_goSub_25 : decode prog_8_method_14_code 25 = .ok (.invokevirtual 160, 3) := dd_at dd_Ma_goSub 13 rfl
theorem d_Ma_goSub_28 : decode prog_8_method_14_code 28 = .ok (.aload_n 0, 1) := dd_at dd_Ma_goSub 14 rfl
theorem d_Ma_goSub_29 : decode prog_8_method_14_code 29 = .ok (.getfield 21, 3) := dd_at dd_Ma_goSub 15 rfl
theorem d_Ma_goSub_32 : decode prog_8_method_14_code 32 = .ok (.invokevirtual 72, 3) := dd_at dd_Ma_goSub 16 rfl
theorem d_Ma_goSub_35 : decode prog_8_method_14_code 35 = .ok (.ifCond .eq (28), 3) := dd_at dd_Ma_goSub 17 rfl
theorem d_Ma_goSub_38 : decode prog_8_method_14_code 38 = .ok (.aload_n 0, 1) := dd_at dd_Ma_goSub 18 rfl
theorem d_Ma_goSub_39 : decode prog_8_method_14_code 39 = .ok (.getfield 40, 3) := dd_at dd_Ma_goSub 19 rfl
theorem d_Ma_goSub_42 : decode prog_8_method_14_code 42 = .ok (.aload_n 0, 1) := dd_at dd_Ma_goSub 20 rfl
theorem d_Ma_goSub_43 : decode prog_8_method_14_code 43 = .ok (.getfield 98, 3) := dd_at dd_Ma_goSub 21 rfl
theorem d_Ma_goSub_46 : decode prog_8_method_14_code 46 = .ok (.aload_n 0, 1) := dd_at dd_Ma_goSub 22 rfl
theorem d_Ma_goSub_47 : decode prog_8_method_14_code 47 = .ok (.getfield 65, 3) := dd_at dd_Ma_goSub 23 rfl
theorem d_Ma_goSub_50 : decode prog_8_method_14_code 50 = .ok (.iconst 1, 1) := dd_at dd_Ma_goSub 24 rfl
theorem d_Ma_goSub_51 : decode prog_8_method_14_code 51 = .ok (.iadd, 1) := dd_at dd_Ma_goSub 25 rfl
theorem d_Ma_goSub_52 : decode prog_8_method_14_code 52 = .ok (.iastore, 1) := dd_at dd_Ma_goSub 26 rfl
theorem d_Ma_goSub_53 : decode prog_8_method_14_code 53 = .ok (.aload_n 0, 1) := dd_at dd_Ma_goSub 27 rfl
theorem d_Ma_goSub_54 : decode prog_8_method_14_code 54 = .ok (.dup, 1) := dd_at dd_Ma_goSub 28 rfl
theorem d_Ma_goSub_55 : decode prog_8_method_14_code 55 = .ok (.getfield 98, 3) := dd_at dd_Ma_goSub 29 rfl
theorem d_Ma_goSub_58 : decode prog_8_method_14_code 58 = .ok (.iconst 1, 1) := dd_at dd_Ma_goSub 30 rfl
theorem d_Ma_goSub_59 : decode prog_8_method_14_code 59 = .ok (.iadd, 1) := dd_at dd_Ma_goSub 31 rfl
theorem d_Ma_goSub_60 : decode prog_8_method_14_code 60 = .ok (.putfield 98, 3) := dd_at dd_Ma_goSub 32 rfl
theorem d_Ma_goSub_63 : decode prog_8_method_14_code 63 = .ok (.return_, 1) := dd_at dd_Ma_goSub 33 rfl
def ld_Ma_goBack : List (Nat × Instr × Nat) := [(0, .aload_n 0, 1), (1, .getfield 98, 3), (4, .ifCond .gt (14), 3), (7, .aload_n 0, 1), (8, .getfield 21, 3), (11, .getstatic 76, 3), (14, .invokevirtual 82, 3), (17, .return_, 1), (18, .aload_n 0, 1), (19, .dup, 1), (20, .getfield 98, 3), (23, .iconst 1, 1), (24, .isub, 1), (25, .putfield 98, 3), (28, .aload_n 0, 1), (29, .aload_n 0, 1), (30, .getfield 40, 3), (33, .aload_n 0, 1), (34, .getfield 98, 3), (37, .iaload, 1), (38, .putfield 50, 3), (41, .return_, 1)]
theorem dd_Ma_goBack : (ld_Ma_goBack).all (dOK prog_8_method_15_code) = true := by decide +kernel
theorem d_Ma_goBack_0 : decode prog_8_method_15_code 0 = .ok (.aload_n 0, 1) := dd_at dd_Ma_goBack 0 rfl
theorem d_Ma_goBack_1 : decode prog_8_method_15_code 1 = .ok (.getfield 98, 3) := dd_at dd_Ma_goBack 1 rfl
theorem d_Ma_goBack_4 : decode prog_8_method_15_code 4 = .ok (.ifCond .gt (14), 3) := dd_at dd_Ma_goBack 2 rfl
theorem d_Ma_goBack_7 : decode prog_8_method_15_code 7 = .ok (.aload_n 0, 1) := dd_at dd_Ma_goBack 3 rfl
theorem d_Ma_goBack_8 : decode prog_8_method_15_code 8 = .ok (.getfield 21, 3) := dd_at dd_Ma_goBack 4 rfl
theorem d_Ma_goBack_11 : decode prog_8_method_15_code 11 = .ok (.getstatic 76, 3) := dd_at dd_Ma_goBack 5 rfl
theorem d_Ma_goBack_14 : decode prog_8_method_15_code 14 = .ok (.invokevirtual 82, 3) := dd_at dd_Ma_goBack 6 rfl
theorem d_Ma_goBack_17 : decode prog_8_method_15_code 17 = .ok (.return_, 1) := dd_at dd_Ma_goBack 7 rfl
theorem d_Ma_goBack_18 : decode prog_8_method_15_code 18 = .ok (.aload_n 0, 1) := dd_at dd_Ma_goBack 8 rfl
theorem d_Ma_goBack_19 : decode prog_8_method_15_code 19 = .ok (.dup, 1) := dd_at dd_Ma_goBack 9 rfl
theorem d_Ma_goBack_20 : decode prog_8_method_15_code 20 = .ok (.getfield 98, 3) := dd_at dd_Ma_goBack 10 rfl
theorem d_Ma_goBack_23 : decode prog_8_method_15_code 23 = .ok (.iconst 1, 1) := dd_at dd_Ma_goBack 11 rfl
theorem d_Ma_goBack_24 : decode prog_8_method_15_code 24 = .ok (.isub, 1) := dd_at dd_Ma_goBack 12 rfl
theorem d_Ma_goBack_25 : decode prog_8_method_15_code 25 = .ok (.putfield 98, 3) := dd_at dd_Ma_goBack 13 rfl
theorem d_Ma_goBack_28 : decode prog_8_method_15_code 28 = .ok (.aload_n 0, 1) := dd_at dd_Ma_goBack 14 rfl
theorem d_Ma_goBack_29 : decode prog_8_method_15_code 29 = .ok (.aload_n 0, 1) := dd_at dd_Ma_goBack 15 rfl
theorem d_Ma_goBack_30 : decode prog_8_method_15_code 30 = .ok (.getfield 40, 3) := dd_at dd_Ma_goBack 16 rfl
theorem d_Ma_goBack_33 : decode prog_8_method_15_code 33 = .ok (.aload_n 0, 1) := dd_at dd_Ma_goBack 17 rfl
theorem d_Ma_goBack_34 : decode prog_8_method_15_code 34 = .ok (.getfield 98, 3) := dd_at dd_Ma_goBack 18 rfl
theorem d_Ma_goBack_37 : decode prog_8_method_15_code 37 = .ok (.iaload, 1) := dd_at dd_Ma_goBack 19 rfl
theorem d_Ma_goBack_38 : decode prog_8_method_15_code 38 = .ok (.putfield 50, 3) := dd_at dd_Ma_goBack 20 rfl
theorem d_Ma_goBack_41 : decode prog_8_method_15_code 41 = .ok (.return_, 1) := dd_at dd_Ma_goBack 21 rfl
def ld_Ma_isOver : List (Nat × Instr × Nat) := [(0, .dload 4, 2), (2, .dconst 0, 1), (3, .dcmp .g, 1), (4, .ifCond .ge (17), 3), (7, .dload_n 0, 1), (8, .dload_n 2, 1), (9, .dcmp .g, 1), (10, .ifCond .ge (7), 3), (13, .iconst 1, 1), (14, .goto (18), 3), (17, .iconst 0, 1), (18, .goto (14), 3), (21, .dload_n 0, 1), (22, .dload_n 2, 1), (23, .dcmp .l, 1), (24, .ifCond .le (7), 3), (27, .iconst 1, 1), (28, .goto (4), 3), (31, .iconst 0, 1), (32, .ireturn, 1)]
theorem dd_Ma_isOver : (ld_Ma_isOver).all (dOK prog_8_method_17_code) = true := by decide +kernel
theorem d_Ma_isOver_0 : decode prog_8_method_17_code 0 = .ok (.dload 4, 2) := dd_at dd_Ma_isOver 0 rfl
theorem d_Ma_isOver_2 : decode prog_8_method_17_code 2 = .ok (.dconst 0, 1) := dd_at dd_Ma_isOver 1 rfl
theorem d_Ma_isOver_3 : decode prog_8_method_17_code 3 = .ok (.dcmp .g, 1) := dd_at dd_Ma_isOver 2 rfl
theorem d_Ma_isOver_4 : decode prog_8_method_17_code 4 = .ok (.ifCond .ge (17), 3) := dd_at dd_Ma_isOver 3 rfl
theorem d_Ma_isOver_7 : decode prog_8_method_17_code 7 = .ok (.dload_n 0, 1) := dd_at dd_Ma_isOver 4 rfl
theorem d_Ma_isOver_8 : decode prog_8_method_17_code 8 = .ok (.dload_n 2, 1) := dd_at dd_Ma_isOver 5 rfl
theorem d_Ma_isOver_9 : decode prog_8_method_17_code 9 = .ok (.dcmp .g, 1) := dd_at dd_Ma_isOver 6 rfl
theorem d_Ma_isOver_10 : decode prog_8_method_17_code 10 = .ok (.ifCond .ge (7), 3) := dd_at dd_Ma_isOver 7 rfl
theorem d_Ma_isOver_13 : decode prog_8_method_17_code 13 = .ok (.iconst 1, 1) := dd_at dd_Ma_isOver 8 rfl
theorem d_Ma_isOver_14 : decode prog_8_method_17_code 14 = .ok (.goto (18), 3) := dd_at dd_Ma_isOver 9 rfl
theorem d_Ma_isOver_17 : decode prog_8_method_17_code 17 = .ok (.iconst 0, 1) := dd_at dd_Ma_isOver 10 rfl
theorem d_Ma_isOver_18 : decode prog_8_method_17_code 18 = .ok (.goto (14), 3) := dd_at dd_Ma_isOver 11 rfl
theorem d_Ma_isOver_21 : decode prog_8_method_17_code 21 = .ok (.dload_n 0, 1) := dd_at dd_Ma_isOver 12 rfl
theorem d_Ma_isOver_22 : decode prog_8_method_17_code 22 = .ok (.dload_n 2, 1) := dd_at dd_Ma_isOver 13 rfl
theorem d_Ma_isOver_23 : decode prog_8_method_17_code 23 = .ok (.dcmp .l, 1) := dd_at dd_Ma_isOver 14 rfl
theorem d_Ma_isOver_24 : decode prog_8_method_17_code 24 = .ok (.ifCond .le (7), 3) := dd_at dd_Ma_isOver 15 rfl
theorem d_Ma_isOver_27 : decode prog_8_method_17_code 27 = .ok (.iconst 1, 1) := dd_at dd_Ma_isOver 16 rfl
theorem d_Ma_isOver_28 : decode prog_8_method_17_code 28 = .ok (.goto (4), 3) := dd_at dd_Ma_isOver 17 rfl
theorem d_Ma_isOver_31 : decode prog_8_method_17_code 31 = .ok (.iconst 0, 1) := dd_at dd_Ma_isOver 18 rfl
theorem d_Ma_isOver_32 : decode prog_8_method_17_code 32 = .ok (.ireturn, 1) := dd_at dd_Ma_isOver 19 rfl
def ld_Ma_skipLoop : List (Nat × Instr × Nat) := [(0, .aload_n 0, 1), (1, .getfield 65, 3), (4, .iconst 1, 1), (5, .iadd, 1), (6, .istore_n 2, 1), (7, .iload_n 2, 1), (8, .aload_n 0, 1), (9, .getfield 12, 3), (12, .getfield 110, 3), (15, .if_icmp .ge (48), 3), (18, .aload_n 0, 1), (19, .getfield 12, 3), (22, .iload_n 2, 1), (23, .invokevirtual 53, 3), (26, .astore_n 3, 1), (27, .aload_n 3, 1), (28, .ifnull (29), 3), (31, .aload_n 3, 1), (32, .getfield 114, 3), (35, .getstatic 252, 3), (38, .if_acmp .ne (19), 3), (41, .aload_n 3, 1), (42, .getfield 176, 3), (45, .iload_n 1, 1), (46, .if_icmp .ne (11), 3), (49, .aload_n 0, 1), (50, .iload_n 2, 1), (51, .iconst 1, 1), (52, .iadd, 1), (53, .putfield 50, 3), (56, .return_, 1), (57, .iinc 2 (1), 3), (60, .goto (-53), 3), (63, .aload_n 0, 1), (64, .getfield 21, 3), (67, .getstatic 76, 3), (70, .invokevirtual 82, 3), (73, .return_, 1)]
theorem dd_Ma_skipLoop : (ld_Ma_skipLoop).all (dOK prog_8_method_18_code) = true := by decide +kernel
theorem d_Ma_skipLoop_0 : decode prog_8_method_18_code 0 = .ok (.aload_n 0, 1) := dd_at dd_Ma_skipLoop 0 rfl
theorem d_Ma_skipLoop_1 : decode prog_8_method_18_code 1 = .ok (.getfield 65, 3) := dd_at dd_Ma_skipLoop 1 rfl
theorem d_Ma_skipLoop_4 : decode prog_8_method_18_code 4 = .ok (.iconst 1, 1) := dd_at dd_Ma_skipLoop 2 rfl
theorem d_Ma_skipLoop_5 : decode prog_8_method_18_code 5 = .ok (.iadd, 1) := dd_at dd_Ma_skipLoop 3 rfl
theorem d_Ma_skipLoop_6 : decode prog_8_method_18_code 6 = .ok (.istore_n 2, 1) := dd_at dd_Ma_skipLoop 4 rfl
theorem d_Ma_skipLoop_7 : decode prog_8_method_18_code 7 = .ok (.iload_n 2, 1) := dd_at dd_Ma_skipLoop 5 rfl
theorem d_Ma_skipLoop_8 : decode prog_8_method_18_code 8 = .ok (.aload_n 0, 1) := dd_at dd_Ma_skipLoop 6 rfl
theorem d_Ma_skipLoop_9 : decode prog_8_method_18_code 9 = .ok (.getfield 12, 3) := dd_at dd_Ma_skipLoop 7 rfl
theorem d_Ma_skipLoop_12 : decode prog_8_method_18_code 12 = .ok (.getfield 110, 3) := dd_at dd_Ma_skipLoop 8 rfl
theorem d_Ma_skipLoop_15 : decode prog_8_method_18_code 15 = .ok (.if_icmp .ge (48), 3) := dd_at dd_Ma_skipLoop 9 rfl
theorem d_Ma_skipLoop_18 : decode prog_8_method_18_code 18 = .ok (.aload_n 0, 1) := dd_at dd_Ma_skipLoop 10 rfl
theorem d_Ma_skipLoop_19 : decode prog_8_method_18_code 19 = .ok (.getfield 12, 3) := dd_at dd_Ma_skipLoop 11 rfl
theorem d_Ma_skipLoop_22 : decode prog_8_method_18_code 22 = .ok (.iload_n 2, 1) := dd_at dd_Ma_skipLoop 12 rfl
theorem d_Ma_skipLoop_23 : decode prog_8_method_18_code 23 = .ok (.invokevirtual 53, 3) := dd_at dd_Ma_skipLoop 13 rfl
theorem d_Ma_skipLoop_26 : decode prog_8_method_18_code 26 = .ok (.astore_n 3, 1) := dd_at dd_Ma_skipLoop 14 rfl
theorem d_Ma_skipLoop_27 : decode prog_8_method_18_code 27 = .ok (.aload_n 3, 1) := dd_at dd_Ma_skipLoop 15 rfl
theorem d_Ma_skipLoop_28 : decode prog_8_method_18_code 28 = .ok (.ifnull (29), 3) := dd_at dd_Ma_skipLoop 16 rfl
theorem d_Ma_skipLoop_31 : decode prog_8_method_18_code 31 = .ok (.aload_n 3, 1) := dd_at dd_Ma_skipLoop 17 rfl
theorem d_Ma_skipLoop_32 : decode prog_8_method_18_code 32 = .ok (.getfield 114, 3) := dd_at dd_Ma_skipLoop 18 rfl
theorem d_Ma_skipLoop_35 : decode prog_8_method_18_code 35 = .ok (.getstatic 252, 3) := dd_at dd_Ma_skipLoop 19 rfl
theorem d_Ma_skipLoop_38 : decode prog_8_method_18_code 38 = .ok (.if_acmp .ne (19), 3) := dd_at dd_Ma_skipLoop 20 rfl
theorem d_Ma_skipLoop_41 : decode prog_8_method_18_code 41 = .ok (.aload_n 3, 1) := dd_at dd_Ma_skipLoop 21 rfl
theorem d_Ma_skipLoop_42 : decode prog_8_method_18_code 42 = .ok (.getfield 176, 3) := dd_at dd_Ma_skipLoop 22 rfl
theorem d_Ma_skipLoop_45 : decode prog_8_method_18_code 45 = .ok (.iload_n 1, 1) := dd_at dd_Ma_skipLoop 23 rfl
theorem d_Ma_skipLoop_46 : decode prog_8_method_18_code 46 = .ok (.if_icmp .ne (11), 3) := dd_at dd_Ma_skipLoop 24 rfl
theorem d_Ma_skipLoop_49 : decode prog_8_method_18_code 49 = .ok (.aload_n 0, 1) := dd_at dd_Ma_skipLoop 25 rfl
theorem d_Ma_skipLoop_50 : decode prog_8_method_18_code 50 = .ok (.iload_n 2, 1) := dd_at dd_Ma_skipLoop 26 rfl
theorem d_Ma_skipLoop_51 : decode prog_8_method_18_code 51 = .ok (.iconst 1, 1) := dd_at dd_Ma_skipLoop 27 rfl
theorem d_Ma_skipLoop_52 : decode prog_8_method_18_code 52 = .ok (.iadd, 1) := dd_at dd_Ma_skipLoop 28 rfl
theorem d_Ma_skipLoop_53 : decode prog_8_method_18_code 53 = .ok (.putfield 50, 3) := dd_at dd_Ma_skipLoop 29 rfl
theorem d_Ma_skipLoop_56 : decode prog_8_method_18_code 56 = .ok (.return_, 1) := dd_at dd_Ma_skipLoop 30 rfl
theorem d_Ma_skipLoop_57 : decode prog_8_method_18_code 57 = .ok (.iinc 2 (1), 3) := dd_at dd_Ma_skipLoop 31 rfl
theorem d_Ma_skipLoop_60 : decode prog_8_method_18_code 60 = .ok (.goto (-53), 3) := dd_at dd_Ma_skipLoop 32 rfl
theorem d_Ma_skipLoop_63 : decode prog_8_method_18_code 63 = .ok (.aload_n 0, 1) := dd_at dd_Ma_skipLoop 33 rfl
theorem d_Ma_skipLoop_64 : decode prog_8_method_18_code 64 = .ok (.getfield 21, 3) := dd_at dd_Ma_skipLoop 34 rfl
theorem d_Ma_skipLoop_67 : decode prog_8_method_18_code 67 = .ok (.getstatic 76, 3) := dd_at dd_Ma_skipLoop 35 rfl
theorem d_Ma_skipLoop_70 : decode prog_8_method_18_code 70 = .ok (.invokevirtual 82, 3) := dd_at dd_Ma_skipLoop 36 rfl
theorem d_Ma_skipLoop_73 : decode prog_8_method_18_code 73 = .ok (.return_, 1) := dd_at dd_Ma_skipLoop 37 rfl
def ld_Ma_endLoop : List (Nat × Instr × Nat) := [(0, .aload_n 0, 1), (1, .getfield 28, 3), (4, .iload_n 1, 1), (5, .invokevirtual 240, 3), (8, .istore_n 2, 1), (9, .iload_n 2, 1), (10, .ifCond .ge (14), 3), (13, .aload_n 0, 1), (14, .getfield 21, 3), (17, .getstatic 76, 3), (20, .invokevirtual 82, 3), (23, .return_, 1), (24, .aload_n 0, 1), (25, .getfield 28, 3), (28, .iload_n 2, 1), (29, .iconst 1, 1), (30, .iadd, 1), (31, .putfield 95, 3), (34, .aload_n 0, 1), (35, .getfield 28, 3), (38, .iload_n 2, 1), (39, .invokevirtual 255, 3), (42, .dstore_n 3, 1), (43, .aload_n 0, 1), (44, .getfield 21, 3), (47, .aload_n 0, 1), (48, .getfield 21, 3), (51, .iload_n 1, 1), (52, .invokevirtual 259, 3), (55, .dload_n 3, 1), (56, .dadd, 1), (57, .invokevirtual 262, 3), (60, .dstore 5, 2), (62, .aload_n 0, 1), (63, .getfield 21, 3), (66, .invokevirtual 72, 3), (69, .ifCond .ne (4), 3), (72, .return_, 1), (73, .aload_n 0, 1), (74, .getfield 21, 3), (77, .iload_n 1, 1), (78, .dload 5, 2), (80, .invokevirtual 227, 3), (83, .dload 5, 2), (85, .aload_n 0, 1), (86, .getfield 28, 3), (89, .iload_n 2, 1), (90, .invokevirtual 266, 3), (93, .dload_n 3, 1), (94, .invokestatic 241, 3), (97, .ifCond .eq (14), 3), (100, .aload_n 0, 1), (101, .getfield 28, 3), (104, .iload_n 2, 1), (105, .putfield 95, 3), (108, .goto (17), 3), (111, .aload_n 0, 1), (112, .aload_n 0, 1), (113, .getfield 28, 3), (116, .iload_n 2, 1), (117, .invokevirtual 269, 3), (120, .iconst 1, 1), (121, .iadd, 1), (122, .putfield 50, 3), (125, .return_, 1)]
theorem dd_Ma_endLoop : (ld_Ma_endLoop).all (dOK prog_8_method_19_code) = true := by decide +kernel
theorem d_Ma_endLoop_0 : decode prog_8_method_19_code 0 = .ok (.aload_n 0, 1) := dd_at dd_Ma_endLoop 0 rfl
theorem d_Ma_endLoop_1 : decode prog_8_method_19_code 1 = .ok (.getfield 28, 3) := dd_at dd_Ma_endLoop 1 rfl
theorem d_Ma_endLoop_4 : decode prog_8_method_19_code 4 = .ok (.iload_n 1, 1) := dd_at dd_Ma_endLoop 2 rfl
theorem d_Ma_endLoop_5 : decode prog_8_method_19_code 5 = .ok (.invokevirtual 240, 3) := dd_at dd_Ma_endLoop 3 rfl
theorem d_Ma_endLoop_8 : decode prog_8_method_19_code 8 = .ok (.istore_n 2, 1) := dd_at dd_Ma_endLoop 4 rfl
theorem d_Ma_endLoop_9 : decode prog_8_method_19_code 9 = .ok (.iload_n 2, 1) := dd_at dd_Ma_endLoop 5 rfl
theorem d_Ma_endLoop_10 : decode prog_8_method_19_code 10 = .ok (.ifCond .ge (14), 3) := dd_at dd_Ma_endLoop 6 rfl
theorem d_Ma_endLoop_13 : decode prog_8_method_19_code 13 = .ok (.aload_n 0, 1) := dd_at dd_Ma_endLoop 7 rfl
theorem d_Ma_endLoop_14 : decode prog_8_method_19_code 14 = .ok (.getfield 21, 3) := dd_at dd_Ma_endLoop 8 rfl
theorem d_Ma_endLoop_17 : decode prog_8_method_19_code 17 = .ok (.getstatic 76, 3) := dd_at dd_Ma_endLoop 9 rfl
theorem d_Ma_endLoop_20 : decode prog_8_method_19_code 20 = .ok (.invokevirtual 82, 3) := dd_at dd_Ma_endLoop 10 rfl
theorem d_Ma_endLoop_23 : decode prog_8_method_19_code 23 = .ok (.return_, 1) := dd_at dd_Ma_endLoop 11 rfl
theorem d_Ma_endLoop_24 : decode prog_8_method_19_code 24 = .ok (.aload_n 0, 1) := dd_at dd_Ma_endLoop 12 rfl
theorem d_Ma_endLoop_25 : decode prog_8_method_19_code 25 = .ok (.getfield 28, 3) := dd_at dd_Ma_endLoop 13 rfl
theorem d_Ma_endLoop_28 : decode prog_8_method_19_code 28 = .ok (.iload_n 2, 1) := dd_at dd_Ma_endLoop 14 rfl
theorem d_Ma_endLoop_29 : decode prog_8_method_19_code 29 = .ok (.iconst 1, 1) := dd_at dd_Ma_endLoop 15 rfl
theorem d_Ma_endLoop_30 : decode prog_8_method_19_code 30 = .ok (.iadd, 1) := dd_at dd_Ma_endLoop 16 rfl
theorem d_Ma_endLoop_31 : decode prog_8_method_19_code 31 = .ok (.putfield 95, 3) := dd_at dd_Ma_endLoop 17 rfl
theorem d_Ma_endLoop_34 : decode prog_8_method_19_code 34 = .ok (.aload_n 0, 1) := dd_at dd_Ma_endLoop 18 rfl
theorem d_Ma_endLoop_35 : decode prog_8_method_19_code 35 = .ok (.getfield 28, 3) := dd_at dd_Ma_endLoop 19 rfl
theorem d_Ma_endLoop_38 : decode prog_8_method_19_code 38 = .ok (.iload_n 2, 1) := dd_at dd_Ma_endLoop 20 rfl
theorem d_Ma_endLoop_39 : decode prog_8_method_19_code 39 = .ok (.invokevirtual 255, 3) := dd_at dd_Ma_endLoop 21 rfl
theorem d_Ma_endLoop_42 : decode prog_8_method_19_code 42 = .ok (.dstore_n 3, 1) := dd_at dd_Ma_endLoop 22 rfl
theorem d_Ma_endLoop_43 : decode prog_8_method_19_code 43 = .ok (.aload_n 0, 1) := dd_at dd_Ma_endLoop 23 rfl
theorem d_Ma_endLoop_44 : decode prog_8_method_19_code 44 = .ok (.getfield 21, 3) := dd_at dd_Ma_endLoop 24 rfl
theorem d_Ma_endLoop_47 : decode prog_8_method_19_code 47 = .ok (.aload_n 0, 1) := dd_at dd_Ma_endLoop 25 rfl
theorem d_Ma_endLoop_48 : decode prog_8_method_19_code 48 = .ok (.getfield 21, 3) := dd_at dd_Ma_endLoop 26 rfl
theorem d_Ma_endLoop_51 : decode prog_8_method_19_code 51 = .ok (.iload_n 1, 1) := dd_at dd_Ma_endLoop 27 rfl
theorem d_Ma_endLoop_52 : decode prog_8_method_19_code 52 = .ok (.invokevirtual 259, 3) := dd_at dd_Ma_endLoop 28 rfl
theorem d_Ma_endLoop_55 : decode prog_8_method_19_code 55 = .ok (.dload_n 3, 1) := dd_at dd_Ma_endLoop 29 rfl
theorem d_Ma_endLoop_56 : decode prog_8_method_19_code 56 = .ok (.dadd, 1) := dd_at dd_Ma_endLoop 30 rfl
theorem d_Ma_endLoop_57 : decode prog_8_method_19_code 57 = .ok (.invokevirtual 262, 3) := dd_at dd_Ma_endLoop 31 rfl
theorem d_Ma_endLoop_60 : decode prog_8_method_19_code 60 = .ok (.dstore 5, 2) := dd_at dd_Ma_endLoop 32 rfl
theorem d_Ma_endLoop_62 : decode prog_8_method_19_code 62 = .ok (.aload_n 0, 1) := dd_at dd_Ma_endLoop 33 rfl
theorem d_Ma_endLoop_63 : decode prog_8_method_19_code 63 = .ok (.getfield 21, 3) := dd_at dd_Ma_endLoop 34 rfl
theorem d_Ma_endLoop_66 : decode prog_8_method_19_code 66 = .ok (.invokevirtual 72, 3) := dd_at dd_Ma_endLoop 35 rfl
theorem d_Ma_endLoop_69 : decode prog_8_method_19_code 69 = .ok (.ifCond .ne (4), 3) := dd_at dd_Ma_endLoop 36 rfl
theorem d_Ma_endLoop_72 : decode prog_8_method_19_code 72 = .ok (.return_, 1) := dd_at dd_Ma_endLoop 37 rfl
theorem d_Ma_endLoop_73 : decode prog_8_method_19_code 73 = .ok (.aload_n 0, 1) := dd_at dd_Ma_endLoop 38 rfl
theorem d_Ma_endLoop_74 : decode prog_8_method_19_code 74 = .ok (.getfield 21, 3) := dd_at dd_Ma_endLoop 39 rfl
theorem d_Ma_endLoop_77 : decode prog_8_method_19_code 77 = .ok (.iload_n 1, 1) := dd_at dd_Ma_endLoop 40 rfl
theorem d_Ma_endLoop_78 : decode prog_8_method_19_code 78 = .ok (.dload 5, 2) := dd_at dd_Ma_endLoop 41 rfl
theorem d_Ma_endLoop_80 : decode prog_8_method_19_code 80 = .ok (.invokevirtual 227, 3) := dd_at dd_Ma_endLoop 42 rfl
theorem d_Ma_endLoop_83 : decode prog_8_method_19_code 83 = .ok (.dload 5, 2) := dd_at dd_Ma_endLoop 43 rfl
theorem d_Ma_endLoop_85 : decode prog_8_method_19_code 85 = .ok (.aload_n 0, 1) := dd_at dd_Ma_endLoop 44 rfl
theorem d_Ma_endLoop_86 : decode prog_8_method_19_code 86 = .ok (.getfield 28, 3) := dd_at dd_Ma_endLoop 45 rfl
theorem d_Ma_endLoop_89 : decode prog_8_method_19_code 89 = .ok (.iload_n 2, 1) := dd_at dd_Ma_endLoop 46 rfl
theorem d_Ma_endLoop_90 : decode prog_8_method_19_code 90 = .ok (.invokevirtual 266, 3) := dd_at dd_Ma_endLoop 47 rfl
theorem d_Ma_endLoop_93 : decode prog_8_method_19_code 93 = .ok (.dload_n 3, 1) := dd_at dd_Ma_endLoop 48 rfl
theorem d_Ma_endLoop_94 : decode prog_8_method_19_code 94 = .ok (.invokestatic 241, 3) := dd_at dd_Ma_endLoop 49 rfl
theorem d_Ma_endLoop_97 : decode prog_8_method_19_code 97 = .ok (.ifCond .eq (14), 3) := dd_at dd_Ma_endLoop 50 rfl
theorem d_Ma_endLoop_100 : decode prog_8_method_19_code 100 = .ok (.aload_n 0, 1) := dd_at dd_Ma_endLoop 51 rfl
theorem d_Ma_endLoop_101 : decode prog_8_method_19_code 101 = .ok (.getfield 28, 3) := dd_at dd_Ma_endLoop 52 rfl
theorem d_Ma_endLoop_104 : decode prog_8_method_19_code 104 = .ok (.iload_n 2, 1) := dd_at dd_Ma_endLoop 53 rfl
theorem d_Ma_endLoop_105 : decode prog_8_method_19_code 105 = .ok (.putfield 95, 3) := dd_at dd_Ma_endLoop 54 rfl
theorem d_Ma_endLoop_108 : decode prog_8_method_19_code 108 = .ok (.goto (17), 3) := dd_at dd_Ma_endLoop 55 rfl
theorem d_Ma_endLoop_111 : decode prog_8_method_19_code 111 = .ok (.aload_n 0, 1) := dd_at dd_Ma_endLoop 56 rfl
theorem d_Ma_endLoop_112 : decode prog_8_method_19_code 112 = .ok (.aload_n 0, 1) := dd_at dd_Ma_endLoop 57 rfl
theorem d_Ma_endLoop_113 : decode prog_8_method_19_code 113 = .ok (.getfield 28, 3) := dd_at dd_Ma_endLoop 58 rfl
theorem d_Ma_endLoop_116 : decode prog_8_method_19_code 116 = .ok (.iload_n 2, 1) := dd_at dd_Ma_endLoop 59 rfl
theorem d_Ma_endLoop_117 : decode prog_8_method_19_code 117 = .ok (.invokevirtual 269, 3) := dd_at dd_Ma_endLoop 60 rfl
theorem d_Ma_endLoop_120 : decode prog_8_method_19_code 120 = .ok (.iconst 1, 1) := dd_at dd_Ma_endLoop 61 rfl
theorem d_Ma_endLoop_121 : decode prog_8_method_19_code 121 = .ok (.iadd, 1) := dd_at dd_Ma_endLoop 62 rfl
theorem d_Ma_endLoop_122 : decode prog_8_method_19_code 122 = .ok (.putfield 50, 3) := dd_at dd_Ma_endLoop 63 rfl
theorem d_Ma_endLoop_125 : decode prog_8_method_19_code 125 = .ok (.return_, 1) := dd_at dd_Ma_endLoop 64 rfl
def ld_BM_errorAt : List (Nat × Instr × Nat) := [(0, .aload_n 0, 1), (1, .getfield 13, 3), (4, .ireturn, 1)]
theorem dd_BM_errorAt : (ld_BM_errorAt).all (dOK prog_1_method_4_code) = true := by decide +kernel
theorem d_BM_errorAt_0 : decode prog_1_method_4_code 0 = .ok (.aload_n 0, 1) := dd_at dd_BM_errorAt 0 rfl
theorem d_BM_errorAt_1 : decode prog_1_method_4_code 1 = .ok (.getfield 13, 3) := dd_at dd_BM_errorAt 1 rfl
theorem d_BM_errorAt_4 : decode prog_1_method_4_code 4 = .ok (.ireturn, 1) := dd_at dd_BM_errorAt 2 rfl
def ld_BM_wipe : List (Nat × Instr × Nat) := [(0, .aload_n 0, 1), (1, .getfield 27, 3), (4, .getfield 65, 3), (7, .getfield 83, 3), (10, .istore_n 1, 1), (11, .aload_n 0, 1), (12, .getfield 27, 3), (15, .getfield 65, 3), (18, .iconst 0, 1), (19, .putfield 83, 3), (22, .iload_n 1, 1), (23, .ireturn, 1)]
theorem dd_BM_wipe : (ld_BM_wipe).all (dOK prog_1_method_5_code) = true := by decide +kernel
theorem d_BM_wipe_0 : decode prog_1_method_5_code 0 = .ok (.aload_n 0, 1) := dd_at dd_BM_wipe 0 rfl
theorem d_BM_wipe_1 : decode prog_1_method_5_code 1 = .ok (.getfield 27, 3) := dd_at dd_BM_wipe 1 rfl
theorem d_BM_wipe_4 : decode prog_1_method_5_code 4 = .ok (.getfield 65, 3) := dd_at dd_BM_wipe 2 rfl
theorem d_BM_wipe_7 : decode prog_1_method_5_code 7 = .ok (.getfield 83, 3) := dd_at dd_BM_wipe 3 rfl
theorem d_BM_wipe_10 : decode prog_1_method_5_code 10 = .ok (.istore_n 1, 1) := dd_at dd_BM_wipe 4 rfl
theorem d_BM_wipe_11 : decode prog_1_method_5_code 11 = .ok (.aload_n 0, 1) := dd_at dd_BM_wipe 5 rfl
theorem d_BM_wipe_12 : decode prog_1_method_5_code 12 = .ok (.getfield 27, 3) := dd_at dd_BM_wipe 6 rfl
theorem d_BM_wipe_15 : decode prog_1_method_5_code 15 = .ok (.getfield 65, 3) := dd_at dd_BM_wipe 7 rfl
theorem d_BM_wipe_18 : decode prog_1_method_5_code 18 = .ok (.iconst 0, 1) := dd_at dd_BM_wipe 8 rfl
theorem d_BM_wipe_19 : decode prog_1_method_5_code 19 = .ok (.putfield 83, 3) := dd_at dd_BM_wipe 9 rfl
theorem d_BM_wipe_22 : decode prog_1_method_5_code 22 = .ok (.iload_n 1, 1) := dd_at dd_BM_wipe 10 rfl
theorem d_BM_wipe_23 : decode prog_1_method_5_code 23 = .ok (.ireturn, 1) := dd_at dd_BM_wipe 11 rfl
def ld_BM_at : List (Nat × Instr × Nat) := [(0, .aload_n 0, 1), (1, .getfield 27, 3), (4, .getfield 145, 3), (7, .ireturn, 1)]
theorem dd_BM_at : (ld_BM_at).all (dOK prog_1_method_10_code) = true := by decide +kernel
theorem d_BM_at_0 : decode prog_1_method_10_code 0 = .ok (.aload_n 0, 1) := dd_at dd_BM_at 0 rfl
theorem d_BM_at_1 : decode prog_1_method_10_code 1 = .ok (.getfield 27, 3) := dd_at dd_BM_at 1 rfl
theorem d_BM_at_4 : decode prog_1_method_10_code 4 = .ok (.getfield 145, 3) := dd_at dd_BM_at 2 rfl
theorem d_BM_at_7 : decode prog_1_method_10_code 7 = .ok (.ireturn, 1) := dd_at dd_BM_at 3 rfl
def ld_BM_count : List (Nat × Instr × Nat) := [(0, .iload_n 1, 1), (1, .tableswitch (165) (0) (9) #[(55), (60), (71), (79), (87), (98), (106), (122), (130), (142)], 55), (56, .aload_n 0, 1), (57, .getfield 38, 3), (60, .ireturn, 1), (61, .aload_n 0, 1), (62, .getfield 27, 3), (65, .getfield 65, 3), (68, .getfield 83, 3), (71, .ireturn, 1), (72, .aload_n 0, 1), (73, .getfield 27, 3), (76, .getfield 100, 3), (79, .ireturn, 1), (80, .aload_n 0, 1), (81, .getfield 27, 3), (84, .getfield 103, 3), (87, .ireturn, 1), (88, .aload_n 0, 1), (89, .getfield 27, 3), (92, .getfield 148, 3), (95, .getfield 152, 3), (98, .ireturn, 1), (99, .aload_n 0, 1), (100, .getfield 27, 3), (103, .getfield 155, 3), (106, .ireturn, 1), (107, .aload_n 0, 1), (108, .getfield 27, 3), (111, .getfield 158, 3), (114, .aload_n 0, 1), (115, .getfield 27, 3), (118, .getfield 161, 3), (121, .isub, 1), (122, .ireturn, 1), (123, .aload_n 0, 1), (124, .getfield 27, 3), (127, .getfield 164, 3), (130, .ireturn, 1), (131, .aload_n 0, 1), (132, .getfield 27, 3), (135, .getfield 65, 3), (138, .iconst 0, 1), (139, .invokevirtual 167, 3), (142, .ireturn, 1), (143, .aload_n 0, 1), (144, .getfield 27, 3), (147, .getfield 65, 3), (150, .aload_n 0, 1), (151, .getfield 27, 3), (154, .getfield 65, 3), (157, .getfield 83, 3), (160, .iconst 1, 1), (161, .isub, 1), (162, .invokevirtual 167, 3), (165, .ireturn, 1), (166, .iconst (-1), 1), (167, .ireturn, 1)]
theorem dd_BM_count : (ld_BM_count).all (dOK prog_1_method_11_code) = true := by decide +kernel
theorem d_BM_count_0 : decode prog_1_method_11_code 0 = .ok (.iload_n 1, 1) := dd_at dd_BM_count 0 rfl
theorem d_BM_count_1 : decode prog_1_method_11_code 1 = .ok (.tableswitch (165) (0) (9) #[(55), (60), (71), (79), (87), (98), (106), (122), (130), (142)], 55) := dd_at dd_BM_count 1 rfl
theorem d_BM_count_56 : decode prog_1_method_11_code 56 = .ok (.aload_n 0, 1) := dd_at dd_BM_count 2 rfl
theorem d_BM_count_57 : decode prog_1_method_11_code 57 = .ok (.getfield 38, 3) := dd_at dd_BM_count 3 rfl
theorem d_BM_count_60 : decode prog_1_method_11_code 60 = .ok (.ireturn, 1) := dd_at dd_BM_count 4 rfl
theorem d_BM_count_61 : decode prog_1_method_11_code 61 = .ok (.aload_n 0, 1) := dd_at dd_BM_count 5 rfl
theorem d_BM_count_62 : decode prog_1_method_11_code 62 = .ok (.getfield 27, 3) := dd_at dd_BM_count 6 rfl
theorem d_BM_count_65 : decode prog_1_method_11_code 65 = .ok (.getfield 65, 3) := dd_at dd_BM_count 7 rfl
theorem d_BM_count_68 : decode prog_1_method_11_code 68 = .ok (.getfield 83, 3) := dd_at dd_BM_count 8 rfl
theorem d_BM_count_71 : decode prog_1_method_11_code 71 = .ok (.ireturn, 1) := dd_at dd_BM_count 9 rfl
theorem d_BM_count_72 : decode prog_1_method_11_code 72 = .ok (.aload_n 0, 1) := dd_at dd_BM_count 10 rfl
theorem d_BM_count_73 : decode prog_1_method_11_code 73 = .ok (.getfield 27, 3) := dd_at dd_BM_count 11 rfl
theorem d_BM_count_76 : decode prog_1_method_11_code 76 = .ok (.getfield 100, 3) := dd_at dd_BM_count 12 rfl
theorem d_BM_count_79 : decode prog_1_method_11_code 79 = .ok (.ireturn, 1) := dd_at dd_BM_count 13 rfl
theorem d_BM_count_80 : decode prog_1_method_11_code 80 = .ok (.aload_n 0, 1) := dd_at dd_BM_count 14 rfl
theorem d_BM_count_81 : decode prog_1_method_11_code 81 = .ok (.getfield 27, 3) := dd_at dd_BM_count 15 rfl
theorem d_BM_count_84 : decode prog_1_method_11_code 84 = .ok (.getfield 103, 3) := dd_at dd_BM_count 16 rfl
theorem d_BM_count_87 : decode prog_1_method_11_code 87 = .ok (.ireturn, 1) := dd_at dd_BM_count 17 rfl
theorem d_BM_count_88 : decode prog_1_method_11_code 88 = .ok (.aload_n 0, 1) := dd_at dd_BM_count 18 rfl
theorem d_BM_count_89 : decode prog_1_method_11_code 89 = .ok (.getfield 27, 3) := dd_at dd_BM_count 19 rfl
theorem d_BM_count_92 : decode prog_1_method_11_code 92 = .ok (.getfield 148, 3) := dd_at dd_BM_count 20 rfl
theorem d_BM_count_95 : decode prog_1_method_11_code 95 = .ok (.getfield 152, 3) := dd_at dd_BM_count 21 rfl
theorem d_BM_count_98 : decode prog_1_method_11_code 98 = .ok (.ireturn, 1) := dd_at dd_BM_count 22 rfl
theorem d_BM_count_99 : decode prog_1_method_11_code 99 = .ok (.aload_n 0, 1) := dd_at dd_BM_count 23 rfl
theorem d_BM_count_100 : decode prog_1_method_11_code 100 = .ok (.getfield 27, 3) := dd_at dd_BM_count 24 rfl
theorem d_BM_count_103 : decode prog_1_method_11_code 103 = .ok (.getfield 155, 3) := dd_at dd_BM_count 25 rfl
theorem d_BM_count_106 : decode prog_1_method_11_code 106 = .ok (.ireturn, 1) := dd_at dd_BM_count 26 rfl
theorem d_BM_count_107 : decode prog_1_method_11_code 107 = .ok (.aload_n 0, 1) := dd_at dd_BM_count 27 rfl
theorem d_BM_count_108 : decode prog_1_method_11_code 108 = .ok (.getfield 27, 3) := dd_at dd_BM_count 28 rfl
theorem d_BM_count_111 : decode prog_1_method_11_code 111 = .ok (.getfield 158, 3) := dd_at dd_BM_count 29 rfl
theorem d_BM_count_114 : decode prog_1_method_11_code 114 = .ok (.aload_n 0, 1) := dd_at dd_BM_count 30 rfl
theorem d_BM_count_115 : decode prog_1_method_11_code 115 = .ok (.getfield 27, 3) := dd_at dd_BM_count 31 rfl
theorem d_BM_count_118 : decode prog_1_method_11_code 118 = .ok (.getfield 161, 3) := dd_at dd_BM_count 32 rfl
theorem d_BM_count_121 : decode prog_1_method_11_code 121 = .ok (.isub, 1) := dd_at dd_BM_count 33 rfl
theorem d_BM_count_122 : decode prog_1_method_11_code 122 = .ok (.ireturn, 1) := dd_at dd_BM_count 34 rfl
theorem d_BM_count_123 : decode prog_1_method_11_code 123 = .ok (.aload_n 0, 1) := dd_at dd_BM_count 35 rfl
theorem d_BM_count_124 : decode prog_1_method_11_code 124 = .ok (.getfield 27, 3) := dd_at dd_BM_count 36 rfl
theorem d_BM_count_127 : decode prog_1_method_11_code 127 = .ok (.getfield 164, 3) := dd_at dd_BM_count 37 rfl
theorem d_BM_count_130 : decode prog_1_method_11_code 130 = .ok (.ireturn, 1) := dd_at dd_BM_count 38 rfl
theorem d_BM_count_131 : decode prog_1_method_11_code 131 = .ok (.aload_n 0, 1) := dd_at dd_BM_count 39 rfl
theorem d_BM_count_132 : decode prog_1_method_11_code 132 = .ok (.getfield 27, 3) := dd_at dd_BM_count 40 rfl
theorem d_BM_count_135 : decode prog_1_method_11_code 135 = .ok (.getfield 65, 3) := dd_at dd_BM_count 41 rfl
theorem d_BM_count_138 : decode prog_1_method_11_code 138 = .ok (.iconst 0, 1) := dd_at dd_BM_count 42 rfl
theorem d_BM_count_139 : decode prog_1_method_11_code 139 = .ok (.invokevirtual 167, 3) := dd_at dd_BM_count 43 rfl
theorem d_BM_count_142 : decode prog_1_method_11_code 142 = .ok (.ireturn, 1) := dd_at dd_BM_count 44 rfl
theorem d_BM_count_143 : decode prog_1_method_11_code 143 = .ok (.aload_n 0, 1) := dd_at dd_BM_count 45 rfl
theorem d_BM_count_144 : decode prog_1_method_11_code 144 = .ok (.getfield 27, 3) := dd_at dd_BM_count 46 rfl
theorem d_BM_count_147 : decode prog_1_method_11_code 147 = .ok (.getfield 65, 3) := dd_at dd_BM_count 47 rfl
theorem d_BM_count_150 : decode prog_1_method_11_code 150 = .ok (.aload_n 0, 1) := dd_at dd_BM_count 48 rfl
theorem d_BM_count_151 : decode prog_1_method_11_code 151 = .ok (.getfield 27, 3) := dd_at dd_BM_count 49 rfl
theorem d_BM_count_154 : decode prog_1_method_11_code 154 = .ok (.getfield 65, 3) := dd_at dd_BM_count 50 rfl
theorem d_BM_count_157 : decode prog_1_method_11_code 157 = .ok (.getfield 83, 3) := dd_at dd_BM_count 51 rfl
theorem d_BM_count_160 : decode prog_1_method_11_code 160 = .ok (.iconst 1, 1) := dd_at dd_BM_count 52 rfl
theorem d_BM_count_161 : decode prog_1_method_11_code 161 = .ok (.isub, 1) := dd_at dd_BM_count 53 rfl
theorem d_BM_count_162 : decode prog_1_method_11_code 162 = .ok (.invokevirtual 167, 3) := dd_at dd_BM_count 54 rfl
theorem d_BM_count_165 : decode prog_1_method_11_code 165 = .ok (.ireturn, 1) := dd_at dd_BM_count 55 rfl
theorem d_BM_count_166 : decode prog_1_method_11_code 166 = .ok (.iconst (-1), 1) := dd_at dd_BM_count 56 rfl
theorem d_BM_count_167 : decode prog_1_method_11_code 167 = .ok (.ireturn, 1) := dd_at dd_BM_count 57 rfl
def ld_BM_isDigit : List (Nat × Instr × Nat) := [(0, .iload_n 0, 1), (1, .bipush (48), 2), (3, .if_icmp .lt (13), 3), (6, .iload_n 0, 1), (7, .bipush (57), 2), (9, .if_icmp .gt (7), 3), (12, .iconst 1, 1), (13, .goto (4), 3), (16, .iconst 0, 1), (17, .ireturn, 1)]
theorem dd_BM_isDigit : (ld_BM_isDigit).all (dOK prog_1_method_13_code) = true := by decide +kernel
theorem d_BM_isDigit_0 : decode prog_1_method_13_code 0 = .ok (.iload_n 0, 1) := dd_at dd_BM_isDigit 0 rfl
theorem d_BM_isDigit_1 : decode prog_1_method_13_code 1 = .ok (.bipush (48), 2) := dd_at dd_BM_isDigit 1 rfl
theorem d_BM_isDigit_3 : decode prog_1_method_13_code 3 = .ok (.if_icmp .lt (13), 3) := dd_at dd_BM_isDigit 2 rfl
theorem d_BM_isDigit_6 : decode prog_1_method_13_code 6 = .ok (.iload_n 0, 1) := dd_at dd_BM_isDigit 3 rfl
theorem d_BM_isDigit_7 : decode prog_1_method_13_code 7 = .ok (.bipush (57), 2) := dd_at dd_BM_isDigit 4 rfl
theorem d_BM_isDigit_9 : decode prog_1_method_13_code 9 = .ok (.if_icmp .gt (7), 3) := dd_at dd_BM_isDigit 5 rfl
theorem d_BM_isDigit_12 : decode prog_1_method_13_code 12 = .ok (.iconst 1, 1) := dd_at dd_BM_isDigit 6 rfl
theorem d_BM_isDigit_13 : decode prog_1_method_13_code 13 = .ok (.goto (4), 3) := dd_at dd_BM_isDigit 7 rfl
theorem d_BM_isDigit_16 : decode prog_1_method_13_code 16 = .ok (.iconst 0, 1) := dd_at dd_BM_isDigit 8 rfl
theorem d_BM_isDigit_17 : decode prog_1_method_13_code 17 = .ok (.ireturn, 1) := dd_at dd_BM_isDigit 9 rfl
def ld_BM_isMatrix : List (Nat × Instr × Nat) := [(0, .iload_n 0, 1), (1, .bipush (80), 2), (3, .if_icmp .lt (13), 3), (6, .iload_n 0, 1), (7, .bipush (82), 2), (9, .if_icmp .gt (7), 3), (12, .iconst 1, 1), (13, .goto (4), 3), (16, .iconst 0, 1), (17, .ireturn, 1)]
theorem dd_BM_isMatrix : (ld_BM_isMatrix).all (dOK prog_1_method_14_code) = true := by decide +kernel
theorem d_BM_isMatrix_0 : decode prog_1_method_14_code 0 = .ok (.iload_n 0, 1) := dd_at dd_BM_isMatrix 0 rfl
theorem d_BM_isMatrix_1 : decode prog_1_method_14_code 1 = .ok (.bipush (80), 2) := dd_at dd_BM_isMatrix 1 rfl
theorem d_BM_isMatrix_3 : decode prog_1_method_14_code 3 = .ok (.if_icmp .lt (13), 3) := dd_at dd_BM_isMatrix 2 rfl
theorem d_BM_isMatrix_6 : decode prog_1_method_14_code 6 = .ok (.iload_n 0, 1) := dd_at dd_BM_isMatrix 3 rfl
theorem d_BM_isMatrix_7 : decode prog_1_method_14_code 7 = .ok (.bipush (82), 2) := dd_at dd_BM_isMatrix 4 rfl
theorem d_BM_isMatrix_9 : decode prog_1_method_14_code 9 = .ok (.if_icmp .gt (7), 3) := dd_at dd_BM_isMatrix 5 rfl
theorem d_BM_isMatrix_12 : decode prog_1_method_14_code 12 = .ok (.iconst 1, 1) := dd_at dd_BM_isMatrix 6 rfl
theorem d_BM_isMatrix_13 : decode prog_1_method_14_code 13 = .ok (.goto (4), 3) := dd_at dd_BM_isMatrix 7 rfl
theorem d_BM_isMatrix_16 : decode prog_1_method_14_code 16 = .ok (.iconst 0, 1) := dd_at dd_BM_isMatrix 8 rfl
theorem d_BM_isMatrix_17 : decode prog_1_method_14_code 17 = .ok (.ireturn, 1) := dd_at dd_BM_isMatrix 9 rfl
def ld_BM_isVariable : List (Nat × Instr × Nat) := [(0, .iload_n 0, 1), (1, .bipush (65), 2), (3, .if_icmp .lt (25), 3), (6, .iload_n 0, 1), (7, .bipush (90), 2), (9, .if_icmp .gt (19), 3), (12, .iload_n 0, 1), (13, .bipush (80), 2), (15, .if_icmp .lt (9), 3), (18, .iload_n 0, 1), (19, .bipush (82), 2), (21, .if_icmp .le (7), 3), (24, .iconst 1, 1), (25, .goto (4), 3), (28, .iconst 0, 1), (29, .ireturn, 1)]
theorem dd_BM_isVariable : (ld_BM_isVariable).all (dOK prog_1_method_15_code) = true := by decide +kernel
theorem d_BM_isVariable_0 : decode prog_1_method_15_code 0 = .ok (.iload_n 0, 1) := dd_at dd_BM_isVariable 0 rfl
theorem d_BM_isVariable_1 : decode prog_1_method_15_code 1 = .ok (.bipush (65), 2) := dd_at dd_BM_isVariable 1 rfl
theorem d_BM_isVariable_3 : decode prog_1_method_15_code 3 = .ok (.if_icmp .lt (25), 3) := dd_at dd_BM_isVariable 2 rfl
theorem d_BM_isVariable_6 : decode prog_1_method_15_code 6 = .ok (.iload_n 0, 1) := dd_at dd_BM_isVariable 3 rfl
theorem d_BM_isVariable_7 : decode prog_1_method_15_code 7 = .ok (.bipush (90), 2) := dd_at dd_BM_isVariable 4 rfl
theorem d_BM_isVariable_9 : decode prog_1_method_15_code 9 = .ok (.if_icmp .gt (19), 3) := dd_at dd_BM_isVariable 5 rfl
theorem d_BM_isVariable_12 : decode prog_1_method_15_code 12 = .ok (.iload_n 0, 1) := dd_at dd_BM_isVariable 6 rfl
theorem d_BM_isVariable_13 : decode prog_1_method_15_code 13 = .ok (.bipush (80), 2) := dd_at dd_BM_isVariable 7 rfl
theorem d_BM_isVariable_15 : decode prog_1_method_15_code 15 = .ok (.if_icmp .lt (9), 3) := dd_at dd_BM_isVariable 8 rfl
theorem d_BM_isVariable_18 : decode prog_1_method_15_code 18 = .ok (.iload_n 0, 1) := dd_at dd_BM_isVariable 9 rfl
theorem d_BM_isVariable_19 : decode prog_1_method_15_code 19 = .ok (.bipush (82), 2) := dd_at dd_BM_isVariable 10 rfl
theorem d_BM_isVariable_21 : decode prog_1_method_15_code 21 = .ok (.if_icmp .le (7), 3) := dd_at dd_BM_isVariable 11 rfl
theorem d_BM_isVariable_24 : decode prog_1_method_15_code 24 = .ok (.iconst 1, 1) := dd_at dd_BM_isVariable 12 rfl
theorem d_BM_isVariable_25 : decode prog_1_method_15_code 25 = .ok (.goto (4), 3) := dd_at dd_BM_isVariable 13 rfl
theorem d_BM_isVariable_28 : decode prog_1_method_15_code 28 = .ok (.iconst 0, 1) := dd_at dd_BM_isVariable 14 rfl
theorem d_BM_isVariable_29 : decode prog_1_method_15_code 29 = .ok (.ireturn, 1) := dd_at dd_BM_isVariable 15 rfl
def ld_BM_isFunction : List (Nat × Instr × Nat) := [(0, .iload_n 0, 1), (1, .bipush (65), 2), (3, .if_icmp .lt (13), 3), (6, .iload_n 0, 1), (7, .bipush (67), 2), (9, .if_icmp .gt (7), 3), (12, .iconst 1, 1), (13, .goto (4), 3), (16, .iconst 0, 1), (17, .ireturn, 1)]
theorem dd_BM_isFunction : (ld_BM_isFunction).all (dOK prog_1_method_16_code) = true := by decide +kernel
theorem d_BM_isFunction_0 : decode prog_1_method_16_code 0 = .ok (.iload_n 0, 1) := dd_at dd_BM_isFunction 0 rfl
theorem d_BM_isFunction_1 : decode prog_1_method_16_code 1 = .ok (.bipush (65), 2) := dd_at dd_BM_isFunction 1 rfl
theorem d_BM_isFunction_3 : decode prog_1_method_16_code 3 = .ok (.if_icmp .lt (13), 3) := dd_at dd_BM_isFunction 2 rfl
theorem d_BM_isFunction_6 : decode prog_1_method_16_code 6 = .ok (.iload_n 0, 1) := dd_at dd_BM_isFunction 3 rfl
theorem d_BM_isFunction_7 : decode prog_1_method_16_code 7 = .ok (.bipush (67), 2) := dd_at dd_BM_isFunction 4 rfl
theorem d_BM_isFunction_9 : decode prog_1_method_16_code 9 = .ok (.if_icmp .gt (7), 3) := dd_at dd_BM_isFunction 5 rfl
theorem d_BM_isFunction_12 : decode prog_1_method_16_code 12 = .ok (.iconst 1, 1) := dd_at dd_BM_isFunction 6 rfl
theorem d_BM_isFunction_13 : decode prog_1_method_16_code 13 = .ok (.goto (4), 3) := dd_at dd_BM_isFunction 7 rfl
theorem d_BM_isFunction_16 : decode prog_1_method_16_code 16 = .ok (.iconst 0, 1) := dd_at dd_BM_isFunction 8 rfl
theorem d_BM_isFunction_17 : decode prog_1_method_16_code 17 = .ok (.ireturn, 1) := dd_at dd_BM_isFunction 9 rfl
def ld_JS_charAt : List (Nat × Instr × Nat) := [(0, .aload_n 0, 1), (1, .invokevirtual 492, 3), (4, .ifCond .eq (12), 3), (7, .aload_n 0, 1), (8, .getfield 9, 3), (11, .iload_n 1, 1), (12, .invokestatic 495, 3), (15, .ireturn, 1)]
theorem dd_JS_charAt : (ld_JS_charAt).all (dOK prog_23_method_56_code) = true := by decide +kernel
theorem d_JS_charAt_0 : decode prog_23_method_56_code 0 = .ok (.aload_n 0, 1) := dd_at dd_JS_charAt 0 rfl
theorem d_JS_charAt_1 : decode prog_23_method_56_code 1 = .ok (.invokevirtual 492, 3) := dd_at dd_JS_charAt 1 rfl
theorem d_JS_charAt_4 : decode prog_23_method_56_code 4 = .ok (.ifCond .eq (12), 3) := dd_at dd_JS_charAt 2 rfl
theorem d_JS_charAt_7 : decode prog_23_method_56_code 7 = .ok (.aload_n 0, 1) := dd_at dd_JS_charAt 3 rfl
theorem d_JS_charAt_8 : decode prog_23_method_56_code 8 = .ok (.getfield 9, 3) := dd_at dd_JS_charAt 4 rfl
theorem d_JS_charAt_11 : decode prog_23_method_56_code 11 = .ok (.iload_n 1, 1) := dd_at dd_JS_charAt 5 rfl
theorem d_JS_charAt_12 : decode prog_23_method_56_code 12 = .ok (.invokestatic 495, 3) := dd_at dd_JS_charAt 6 rfl
theorem d_JS_charAt_15 : decode prog_23_method_56_code 15 = .ok (.ireturn, 1) := dd_at dd_JS_charAt 7 rfl
def ld_Li_startOf : List (Nat × Instr × Nat) := [(0, .aload_n 0, 1), (1, .iload_n 1, 1), (2, .iconst 1, 1), (3, .isub, 1), (4, .invokevirtual 62, 3), (7, .ireturn, 1)]
theorem dd_Li_startOf : (ld_Li_startOf).all (dOK prog_6_method_7_code) = true := by decide +kernel
theorem d_Li_startOf_0 : decode prog_6_method_7_code 0 = .ok (.aload_n 0, 1) := dd_at dd_Li_startOf 0 rfl
theorem d_Li_startOf_1 : decode prog_6_method_7_code 1 = .ok (.iload_n 1, 1) := dd_at dd_Li_startOf 1 rfl
theorem d_Li_startOf_2 : decode prog_6_method_7_code 2 = .ok (.iconst 1, 1) := dd_at dd_Li_startOf 2 rfl
theorem d_Li_startOf_3 : decode prog_6_method_7_code 3 = .ok (.isub, 1) := dd_at dd_Li_startOf 3 rfl
theorem d_Li_startOf_4 : decode prog_6_method_7_code 4 = .ok (.invokevirtual 62, 3) := dd_at dd_Li_startOf 4 rfl
theorem d_Li_startOf_7 : decode prog_6_method_7_code 7 = .ok (.ireturn, 1) := dd_at dd_Li_startOf 5 rfl
def ld_Ca_apply : List (Nat × Instr × Nat) := [(0, .iload_n 1, 1), (1, .tableswitch (301) (0) (13) #[(71), (84), (96), (108), (183), (207), (231), (255), (278), (120), (134), (148), (162), (170)], 71), (72, .aload_n 0, 1), (73, .iload_n 2, 1), (74, .i2d, 1), (75, .ldc2_w 100, 3), (78, .ddiv, 1), (79, .invokevirtual 102, 3), (82, .goto (220), 3), (85, .aload_n 0, 1), (86, .aload_n 0, 1), (87, .iload_n 2, 1), (88, .invokevirtual 106, 3), (91, .invokevirtual 102, 3), (94, .goto (208), 3), (97, .aload_n 0, 1), (98, .aload_n 0, 1), (99, .iload_n 2, 1), (100, .invokevirtual 110, 3), (103, .invokevirtual 114, 3), (106, .goto (196), 3), (109, .aload_n 0, 1), (110, .aload_n 0, 1), (111, .invokevirtual 96, 3), (114, .dneg, 1), (115, .invokevirtual 102, 3), (118, .goto (184), 3), (121, .aload_n 0, 1), (122, .aload_n 0, 1), (123, .invokevirtual 96, 3), (126, .invokestatic 118, 3), (129, .invokevirtual 102, 3), (132, .goto (170), 3), (135, .aload_n 0, 1), (136, .aload_n 0, 1), (137, .invokevirtual 96, 3), (140, .invokestatic 122, 3), (143, .invokevirtual 102, 3), (146, .goto (156), 3), (149, .aload_n 0, 1), (150, .aload_n 0, 1), (151, .invokevirtual 96, 3), (154, .invokestatic 125, 3), (157, .invokevirtual 102, 3), (160, .goto (142), 3), (163, .aload_n 0, 1), (164, .iload_n 2, 1), (165, .invokevirtual 128, 3), (168, .goto (134), 3), (171, .aload_n 0, 1), (172, .aload_n 0, 1), (173, .iload_n 2, 1), (174, .invokevirtual 132, 3), (177, .iload_n 3, 1), (178, .invokevirtual 136, 3), (181, .goto (121), 3), (184, .aload_n 0, 1), (185, .invokevirtual 96, 3), (188, .dstore 4, 2), (190, .aload_n 0, 1), (191, .aload_n 0, 1), (192, .aload_n 0, 1), (193, .invokevirtual 96, 3), (196, .dload 4, 2), (198, .dadd, 1), (199, .invokevirtual 140, 3), (202, .invokevirtual 102, 3), (205, .goto (97), 3), (208, .aload_n 0, 1), (209, .invokevirtual 96, 3), (212, .dstore 4, 2), (214, .aload_n 0, 1), (215, .aload_n 0, 1), (216, .aload_n 0, 1), (217, .invokevirtual 96, 3), (220, .dload 4, 2), (222, .dsub, 1), (223, .invokevirtual 140, 3), (226, .invokevirtual 102, 3), (229, .goto (73), 3), (232, .aload_n 0, 1), (233, .invokevirtual 96, 3), (236, .dstore 4, 2), (238, .aload_n 0, 1), (239, .aload_n 0, 1), (240, .aload_n 0, 1), (241, .invokevirtual 96, 3), (244, .dload 4, 2), (246, .dmul, 1), (247, .invokevirtual 140, 3), (250, .invokevirtual 102, 3), (253, .goto (49), 3), (256, .aload_n 0, 1), (257, .invokevirtual 96, 3), (260, .dstore 4, 2), (262, .aload_n 0, 1), (263, .aload_n 0, 1), (264, .aload_n 0, 1), (265, .invokevirtual 96, 3), (268, .dload 4, 2), (270, .invokevirtual 143, 3), (273, .invokevirtual 102, 3), (276, .goto (26), 3), (279, .aload_n 0, 1), (280, .invokevirtual 96, 3), (283, .dstore 4, 2), (285, .aload_n 0, 1), (286, .aload_n 0, 1), (287, .aload_n 0, 1), (288, .invokevirtual 96, 3), (291, .dload 4, 2), (293, .invokevirtual 147, 3), (296, .invokevirtual 102, 3), (299, .goto (3), 3), (302, .return_, 1)]
theorem dd_Ca_apply : (ld_Ca_apply).all (dOK prog_3_method_15_code) = true := by decide +kernel
theorem d_Ca_apply_0 : decode prog_3_method_15_code 0 = .ok (.iload_n 1, 1) := dd_at dd_Ca_apply 0 rfl
theorem d_Ca_apply_1 : decode prog_3_method_15_code 1 = .ok (.tableswitch (301) (0) (13) #[(71), (84), (96), (108), (183), (207), (231), (255), (278), (120), (134), (148), (162), (170)], 71) := dd_at dd_Ca_apply 1 rfl
theorem d_Ca_apply_72 : decode prog_3_method_15_code 72 = .ok (.aload_n 0, 1) := dd_at dd_Ca_apply 2 rfl
theorem d_Ca_apply_73 : decode prog_3_method_15_code 73 = .ok (.iload_n 2, 1) := dd_at dd_Ca_apply 3 rfl
theorem d_Ca_apply_74 : decode prog_3_method_15_code 74 = .ok (.i2d, 1) := dd_at dd_Ca_apply 4 rfl
theorem d_Ca_apply_75 : decode prog_3_method_15_code 75 = .ok (.ldc2_w 100, 3) := dd_at dd_Ca_apply 5 rfl
theorem d_Ca_apply_78 : decode prog_3_method_15_code 78 = .ok (.ddiv, 1) := dd_at dd_Ca_apply 6 rfl
theorem d_Ca_apply_79 : decode prog_3_method_15_code 79 = .ok (.invokevirtual 102, 3) := dd_at dd_Ca_apply 7 rfl
theorem d_Ca_apply_82 : decode prog_3_method_15_code 82 = .ok (.goto (220), 3) := dd_at dd_Ca_apply 8 rfl
theorem d_Ca_apply_85 : decode prog_3_method_15_code 85 = .ok (.aload_n 0, 1) := dd_at dd_Ca_apply 9 rfl
theorem d_Ca_apply_86 : decode prog_3_method_15_code 86 = .ok (.aload_n 0, 1) := dd_at dd_Ca_apply 10 rfl
theorem d_Ca_apply_87 : decode prog_3_method_15_code 87 = .ok (.iload_n 2, 1) := dd_at dd_Ca_apply 11 rfl
theorem d_Ca_apply_88 : decode prog_3_method_15_code 88 = .ok (.invokevirtual 106, 3) := dd_at dd_Ca_apply 12 rfl
theorem d_Ca_apply_91 : decode prog_3_method_15_code 91 = .ok (.invokevirtual 102, 3) := dd_at dd_Ca_apply 13 rfl
theorem d_Ca_apply_94 : decode prog_3_method_15_code 94 = .ok (.goto (208), 3) := dd_at dd_Ca_apply 14 rfl
theorem d_Ca_apply_97 : decode prog_3_method_15_code 97 = .ok (.aload_n 0, 1) := dd_at dd_Ca_apply 15 rfl
theorem d_Ca_apply_98 : decode prog_3_method_15_code 98 = .ok (.aload_n 0, 1) := dd_at dd_Ca_apply 16 rfl
theorem d_Ca_apply_99 : decode prog_3_method_15_code 99 = .ok (.iload_n 2, 1) := dd_at dd_Ca_apply 17 rfl
theorem d_Ca_apply_100 : decode prog_3_method_15_code 100 = .ok (.invokevirtual 110, 3) := dd_at dd_Ca_apply 18 rfl
theorem d_Ca_apply_103 : decode prog_3_method_15_code 103 = .ok (.invokevirtual 114, 3) := dd_at dd_Ca_apply 19 rfl
theorem d_Ca_apply_106 : decode prog_3_method_15_code 106 = .ok (.goto (196), 3) := dd_at dd_Ca_apply 20 rfl
theorem d_Ca_apply_109 : decode prog_3_method_15_code 109 = .ok (.aload_n 0, 1) := dd_at dd_Ca_apply 21 rfl
theorem d_Ca_apply_110 : decode prog_3_method_15_code 110 = .ok (.aload_n 0, 1) := dd_at dd_Ca_apply 22 rfl
theorem d_Ca_apply_111 : decode prog_3_method_15_code 111 = .ok (.invokevirtual 96, 3) := dd_at dd_Ca_apply 23 rfl
theorem d_Ca_apply_114 : decode prog_3_method_15_code 114 = .ok (.dneg, 1) := dd_at dd_Ca_apply 24 rfl
theorem d_Ca_apply_115 : decode prog_3_method_15_code 115 = .ok (.invokevirtual 102, 3) := dd_at dd_Ca_apply 25 rfl
theorem d_Ca_apply_118 : decode prog_3_method_15_code 118 = .ok (.goto (184), 3) := dd_at dd_Ca_apply 26 rfl
theorem d_Ca_apply_121 : decode prog_3_method_15_code 121 = .ok (.aload_n 0, 1) := dd_at dd_Ca_apply 27 rfl
theorem d_Ca_apply_122 : decode prog_3_method_15_code 122 = .ok (.aload_n 0, 1) := dd_at dd_Ca_apply 28 rfl
theorem d_Ca_apply_123 : decode prog_3_method_15_code 123 = .ok (.invokevirtual 96, 3) := dd_at dd_Ca_apply 29 rfl
theorem d_Ca_apply_126 : decode prog_3_method_15_code 126 = .ok (.invokestatic 118, 3) := dd_at dd_Ca_apply 30 rfl
theorem d_Ca_apply_129 : decode prog_3_method_15_code 129 = .ok (.invokevirtual 102, 3) := dd_at dd_Ca_apply 31 rfl
theorem d_Ca_apply_132 : decode prog_3_method_15_code 132 = .ok (.goto (170), 3) := dd_at dd_Ca_apply 32 rfl
theorem d_Ca_apply_135 : decode prog_3_method_15_code 135 = .ok (.aload_n 0, 1) := dd_at dd_Ca_apply 33 rfl
theorem d_Ca_apply_136 : decode prog_3_method_15_code 136 = .ok (.aload_n 0, 1) := dd_at dd_Ca_apply 34 rfl
theorem d_Ca_apply_137 : decode prog_3_method_15_code 137 = .ok (.invokevirtual 96, 3) := dd_at dd_Ca_apply 35 rfl
theorem d_Ca_apply_140 : decode prog_3_method_15_code 140 = .ok (.invokestatic 122, 3) := dd_at dd_Ca_apply 36 rfl
theorem d_Ca_apply_143 : decode prog_3_method_15_code 143 = .ok (.invokevirtual 102, 3) := dd_at dd_Ca_apply 37 rfl
theorem d_Ca_apply_146 : decode prog_3_method_15_code 146 = .ok (.goto (156), 3) := dd_at dd_Ca_apply 38 rfl
theorem d_Ca_apply_149 : decode prog_3_method_15_code 149 = .ok (.aload_n 0, 1) := dd_at dd_Ca_apply 39 rfl
theorem d_Ca_apply_150 : decode prog_3_method_15_code 150 = .ok (.aload_n 0, 1) := dd_at dd_Ca_apply 40 rfl
theorem d_Ca_apply_151 : decode prog_3_method_15_code 151 = .ok (.invokevirtual 96, 3) := dd_at dd_Ca_apply 41 rfl
theorem d_Ca_apply_154 : decode prog_3_method_15_code 154 = .ok (.invokestatic 125, 3) := dd_at dd_Ca_apply 42 rfl
theorem d_Ca_apply_157 : decode prog_3_method_15_code 157 = .ok (.invokevirtual 102, 3) := dd_at dd_Ca_apply 43 rfl
theorem d_Ca_apply_160 : decode prog_3_method_15_code 160 = .ok (.goto (142), 3) := dd_at dd_Ca_apply 44 rfl
theorem d_Ca_apply_163 : decode prog_3_method_15_code 163 = .ok (.aload_n 0, 1) := dd_at dd_Ca_apply 45 rfl
theorem d_Ca_apply_164 : decode prog_3_method_15_code 164 = .ok (.iload_n 2, 1) := dd_at dd_Ca_apply 46 rfl
theorem d_Ca_apply_165 : decode prog_3_method_15_code 165 = .ok (.invokevirtual 128, 3) := dd_at dd_Ca_apply 47 rfl
theorem d_Ca_apply_168 : decode prog_3_method_15_code 168 = .ok (.goto (134), 3) := dd_at dd_Ca_apply 48 rfl
theorem d_Ca_apply_171 : decode prog_3_method_15_code 171 = .ok (.aload_n 0, 1) := dd_at dd_Ca_apply 49 rfl
theorem d_Ca_apply_172 : decode prog_3_method_15_code 172 = .ok (.aload_n 0, 1) := dd_at dd_Ca_apply 50 rfl
theorem d_Ca_apply_173 : decode prog_3_method_15_code 173 = .ok (.iload_n 2, 1) := dd_at dd_Ca_apply 51 rfl
theorem d_Ca_apply_174 : decode prog_3_method_15_code 174 = .ok (.invokevirtual 132, 3) := dd_at dd_Ca_apply 52 rfl
theorem d_Ca_apply_177 : decode prog_3_method_15_code 177 = .ok (.iload_n 3, 1) := dd_at dd_Ca_apply 53 rfl
theorem d_Ca_apply_178 : decode prog_3_method_15_code 178 = .ok (.invokevirtual 136, 3) := dd_at dd_Ca_apply 54 rfl
theorem d_Ca_apply_181 : decode prog_3_method_15_code 181 = .ok (.goto (121), 3) := dd_at dd_Ca_apply 55 rfl
theorem d_Ca_apply_184 : decode prog_3_method_15_code 184 = .ok (.aload_n 0, 1) := dd_at dd_Ca_apply 56 rfl
theorem d_Ca_apply_185 : decode prog_3_method_15_code 185 = .ok (.invokevirtual 96, 3) := dd_at dd_Ca_apply 57 rfl
theorem d_Ca_apply_188 : decode prog_3_method_15_code 188 = .ok (.dstore 4, 2) := dd_at dd_Ca_apply 58 rfl
theorem d_Ca_apply_190 : decode prog_3_method_15_code 190 = .ok (.aload_n 0, 1) := dd_at dd_Ca_apply 59 rfl
theorem d_Ca_apply_191 : decode prog_3_method_15_code 191 = .ok (.aload_n 0, 1) := dd_at dd_Ca_apply 60 rfl
theorem d_Ca_apply_192 : decode prog_3_method_15_code 192 = .ok (.aload_n 0, 1) := dd_at dd_Ca_apply 61 rfl
theorem d_Ca_apply_193 : decode prog_3_method_15_code 193 = .ok (.invokevirtual 96, 3) := dd_at dd_Ca_apply 62 rfl
theorem d_Ca_apply_196 : decode prog_3_method_15_code 196 = .ok (.dload 4, 2) := dd_at dd_Ca_apply 63 rfl
theorem d_Ca_apply_198 : decode prog_3_method_15_code 198 = .ok (.dadd, 1) := dd_at dd_Ca_apply 64 rfl
theorem d_Ca_apply_199 : decode prog_3_method_15_code 199 = .ok (.invokevirtual 140, 3) := dd_at dd_Ca_apply 65 rfl
theorem d_Ca_apply_202 : decode prog_3_method_15_code 202 = .ok (.invokevirtual 102, 3) := dd_at dd_Ca_apply 66 rfl
theorem d_Ca_apply_205 : decode prog_3_method_15_code 205 = .ok (.goto (97), 3) := dd_at dd_Ca_apply 67 rfl
theorem d_Ca_apply_208 : decode prog_3_method_15_code 208 = .ok (.aload_n 0, 1) := dd_at dd_Ca_apply 68 rfl
theorem d_Ca_apply_209 : decode prog_3_method_15_code 209 = .ok (.invokevirtual 96, 3) := dd_at dd_Ca_apply 69 rfl
theorem d_Ca_apply_212 : decode prog_3_method_15_code 212 = .ok (.dstore 4, 2) := dd_at dd_Ca_apply 70 rfl
theorem d_Ca_apply_214 : decode prog_3_method_15_code 214 = .ok (.aload_n 0, 1) := dd_at dd_Ca_apply 71 rfl
theorem d_Ca_apply_215 : decode prog_3_method_15_code 215 = .ok (.aload_n 0, 1) := dd_at dd_Ca_apply 72 rfl
theorem d_Ca_apply_216 : decode prog_3_method_15_code 216 = .ok (.aload_n 0, 1) := dd_at dd_Ca_apply 73 rfl
theorem d_Ca_apply_217 : decode prog_3_method_15_code 217 = .ok (.invokevirtual 96, 3) := dd_at dd_Ca_apply 74 rfl
theorem d_Ca_apply_220 : decode prog_3_method_15_code 220 = .ok (.dload 4, 2) := dd_at dd_Ca_apply 75 rfl
theorem d_Ca_apply_222 : decode prog_3_method_15_code 222 = .ok (.dsub, 1) := dd_at dd_Ca_apply 76 rfl
theorem d_Ca_apply_223 : decode prog_3_method_15_code 223 = .ok (.invokevirtual 140, 3) := dd_at dd_Ca_apply 77 rfl
theorem d_Ca_apply_226 : decode prog_3_method_15_code 226 = .ok (.invokevirtual 102, 3) := dd_at dd_Ca_apply 78 rfl
theorem d_Ca_apply_229 : decode prog_3_method_15_code 229 = .ok (.goto (73), 3) := dd_at dd_Ca_apply 79 rfl
theorem d_Ca_apply_232 : decode prog_3_method_15_code 232 = .ok (.aload_n 0, 1) := dd_at dd_Ca_apply 80 rfl
theorem d_Ca_apply_233 : decode prog_3_method_15_code 233 = .ok (.invokevirtual 96, 3) := dd_at dd_Ca_apply 81 rfl
theorem d_Ca_apply_236 : decode prog_3_method_15_code 236 = .ok (.dstore 4, 2) := dd_at dd_Ca_apply 82 rfl
theorem d_Ca_apply_238 : decode prog_3_method_15_code 238 = .ok (.aload_n 0, 1) := dd_at dd_Ca_apply 83 rfl
theorem d_Ca_apply_239 : decode prog_3_method_15_code 239 = .ok (.aload_n 0, 1) := dd_at dd_Ca_apply 84 rfl
theorem d_Ca_apply_240 : decode prog_3_method_15_code 240 = .ok (.aload_n 0, 1) := dd_at dd_Ca_apply 85 rfl
theorem d_Ca_apply_241 : decode prog_3_method_15_code 241 = .ok (.invokevirtual 96, 3) := dd_at dd_Ca_apply 86 rfl
theorem d_Ca_apply_244 : decode prog_3_method_15_code 244 = .ok (.dload 4, 2) := dd_at dd_Ca_apply 87 rfl
theorem d_Ca_apply_246 : decode prog_3_method_15_code 246 = .ok (.dmul, 1) := dd_at dd_Ca_apply 88 rfl
theorem d_Ca_apply_247 : decode prog_3_method_15_code 247 = .ok (.invokevirtual 140, 3) := dd_at dd_Ca_apply 89 rfl
theorem d_Ca_apply_250 : decode prog_3_method_15_code 250 = .ok (.invokevirtual 102, 3) := dd_at dd_Ca_apply 90 rfl
theorem d_Ca_apply_253 : decode prog_3_method_15_code 253 = .ok (.goto (49), 3) := dd_at dd_Ca_apply 91 rfl
theorem d_Ca_apply_256 : decode prog_3_method_15_code 256 = .ok (.aload_n 0, 1) := dd_at dd_Ca_apply 92 rfl
theorem d_Ca_apply_257 : decode prog_3_method_15_code 257 = .ok (.invokevirtual 96, 3) := dd_at dd_Ca_apply 93 rfl
theorem d_Ca_apply_260 : decode prog_3_method_15_code 260 = .ok (.dstore 4, 2) := dd_at dd_Ca_apply 94 rfl
theorem d_Ca_apply_262 : decode prog_3_method_15_code 262 = .ok (.aload_n 0, 1) := dd_at dd_Ca_apply 95 rfl
theorem d_Ca_apply_263 : decode prog_3_method_15_code 263 = .ok (.aload_n 0, 1) := dd_at dd_Ca_apply 96 rfl
theorem d_Ca_apply_264 : decode prog_3_method_15_code 264 = .ok (.aload_n 0, 1) := dd_at dd_Ca_apply 97 rfl
theorem d_Ca_apply_265 : decode prog_3_method_15_code 265 = .ok (.invokevirtual 96, 3) := dd_at dd_Ca_apply 98 rfl
theorem d_Ca_apply_268 : decode prog_3_method_15_code 268 = .ok (.dload 4, 2) := dd_at dd_Ca_apply 99 rfl
theorem d_Ca_apply_270 : decode prog_3_method_15_code 270 = .ok (.invokevirtual 143, 3) := dd_at dd_Ca_apply 100 rfl
theorem d_Ca_apply_273 : decode prog_3_method_15_code 273 = .ok (.invokevirtual 102, 3) := dd_at dd_Ca_apply 101 rfl
theorem d_Ca_apply_276 : decode prog_3_method_15_code 276 = .ok (.goto (26), 3) := dd_at dd_Ca_apply 102 rfl
theorem d_Ca_apply_279 : decode prog_3_method_15_code 279 = .ok (.aload_n 0, 1) := dd_at dd_Ca_apply 103 rfl
theorem d_Ca_apply_280 : decode prog_3_method_15_code 280 = .ok (.invokevirtual 96, 3) := dd_at dd_Ca_apply 104 rfl
theorem d_Ca_apply_283 : decode prog_3_method_15_code 283 = .ok (.dstore 4, 2) := dd_at dd_Ca_apply 105 rfl
theorem d_Ca_apply_285 : decode prog_3_method_15_code 285 = .ok (.aload_n 0, 1) := dd_at dd_Ca_apply 106 rfl
theorem d_Ca_apply_286 : decode prog_3_method_15_code 286 = .ok (.aload_n 0, 1) := dd_at dd_Ca_apply 107 rfl
theorem d_Ca_apply_287 : decode prog_3_method_15_code 287 = .ok (.aload_n 0, 1) := dd_at dd_Ca_apply 108 rfl
theorem d_Ca_apply_288 : decode prog_3_method_15_code 288 = .ok (.invokevirtual 96, 3) := dd_at dd_Ca_apply 109 rfl
theorem d_Ca_apply_291 : decode prog_3_method_15_code 291 = .ok (.dload 4, 2) := dd_at dd_Ca_apply 110 rfl
theorem d_Ca_apply_293 : decode prog_3_method_15_code 293 = .ok (.invokevirtual 147, 3) := dd_at dd_Ca_apply 111 rfl
theorem d_Ca_apply_296 : decode prog_3_method_15_code 296 = .ok (.invokevirtual 102, 3) := dd_at dd_Ca_apply 112 rfl
theorem d_Ca_apply_299 : decode prog_3_method_15_code 299 = .ok (.goto (3), 3) := dd_at dd_Ca_apply 113 rfl
theorem d_Ca_apply_302 : decode prog_3_method_15_code 302 = .ok (.return_, 1) := dd_at dd_Ca_apply 114 rfl
def ld_Ca_entry : List (Nat × Instr × Nat) := [(0, .aload_n 2, 1), (1, .iload 6, 2), (3, .i2l, 1), (4, .iload 7, 2), (6, .i2l, 1), (7, .invokevirtual 163, 3), (10, .istore 8, 2), (12, .getstatic 225, 3), (15, .aload_n 1, 1), (16, .invokevirtual 230, 3), (19, .iaload, 1), (20, .tableswitch (141) (1) (8) #[(48), (50), (52), (65), (83), (101), (112), (127)], 48), (68, .dconst 0, 1), (69, .dreturn, 1), (70, .dconst 1, 1), (71, .dreturn, 1), (72, .iload 6, 2), (74, .iload 7, 2), (76, .if_icmp .ne (7), 3), (79, .dconst 1, 1), (80, .goto (4), 3), (83, .dconst 0, 1), (84, .dreturn, 1), (85, .aload_n 0, 1), (86, .aload_n 2, 1), (87, .iload 8, 2), (89, .invokevirtual 170, 3), (92, .aload_n 3, 1), (93, .iload 8, 2), (95, .invokevirtual 170, 3), (98, .dadd, 1), (99, .invokevirtual 140, 3), (102, .dreturn, 1), (103, .aload_n 0, 1), (104, .aload_n 2, 1), (105, .iload 8, 2), (107, .invokevirtual 170, 3), (110, .aload_n 3, 1), (111, .iload 8, 2), (113, .invokevirtual 170, 3), (116, .dsub, 1), (117, .invokevirtual 140, 3), (120, .dreturn, 1), (121, .aload_n 0, 1), (122, .aload_n 2, 1), (123, .aload_n 3, 1), (124, .iload 6, 2), (126, .iload 7, 2), (128, .invokevirtual 244, 3), (131, .dreturn, 1), (132, .aload_n 2, 1), (133, .aload_n 2, 1), (134, .iload 7, 2), (136, .i2l, 1), (137, .iload 6, 2), (139, .i2l, 1), (140, .invokevirtual 163, 3), (143, .invokevirtual 170, 3), (146, .dreturn, 1), (147, .aload_n 0, 1), (148, .dload 4, 2), (150, .aload_n 2, 1), (151, .iload 8, 2), (153, .invokevirtual 170, 3), (156, .dmul, 1), (157, .invokevirtual 140, 3), (160, .dreturn, 1), (161, .aload_n 2, 1), (162, .iload 8, 2), (164, .invokevirtual 170, 3), (167, .dreturn, 1)]
theorem dd_Ca_entry : (ld_Ca_entry).all (dOK prog_3_method_27_code) = true := by decide +kernel
theorem d_Ca_entry_0 : decode prog_3_method_27_code 0 = .ok (.aload_n 2, 1) := dd_at dd_Ca_entry 0 rfl
theorem d_Ca_entry_1 : decode prog_3_method_27_code 1 = .ok (.iload 6, 2) := dd_at dd_Ca_entry 1 rfl
theorem d_Ca_entry_3 : decode prog_3_method_27_code 3 = .ok (.i2l, 1) := dd_at dd_Ca_entry 2 rfl
theorem d_Ca_entry_4 : decode prog_3_method_27_code 4 = .ok (.iload 7, 2) := dd_at dd_Ca_entry 3 rfl
theorem d_Ca_entry_6 : decode prog_3_method_27_code 6 = .ok (.i2l, 1) := dd_at dd_Ca_entry 4 rfl
theorem d_Ca_entry_7 : decode prog_3_method_27_code 7 = .ok (.invokevirtual 163, 3) := dd_at dd_Ca_entry 5 rfl
theorem d_Ca_entry_10 : decode prog_3_method_27_code 10 = .ok (.istore 8, 2) := dd_at dd_Ca_entry 6 rfl
theorem d_Ca_entry_12 : decode prog_3_method_27_code 12 = .ok (.getstatic 225, 3) := dd_at dd_Ca_entry 7 rfl
theorem d_Ca_entry_15 : decode prog_3_method_27_code 15 = .ok (.aload_n 1, 1) := dd_at dd_Ca_entry 8 rfl
theorem d_Ca_entry_16 : decode prog_3_method_27_code 16 = .ok (.invokevirtual 230, 3) := dd_at dd_Ca_entry 9 rfl
theorem d_Ca_entry_19 : decode prog_3_method_27_code 19 = .ok (.iaload, 1) := dd_at dd_Ca_entry 10 rfl
theorem d_Ca_entry_20 : decode prog_3_method_27_code 20 = .ok (.tableswitch (141) (1) (8) #[(48), (50), (52), (65), (83), (101), (112), (127)], 48) := dd_at dd_Ca_entry 11 rfl
theorem d_Ca_entry_68 : decode prog_3_method_27_code 68 = .ok (.dconst 0, 1) := dd_at dd_Ca_entry 12 rfl
theorem d_Ca_entry_69 : decode prog_3_method_27_code 69 = .ok (.dreturn, 1) := dd_at dd_Ca_entry 13 rfl
theorem d_Ca_entry_70 : decode prog_3_method_27_code 70 = .ok (.dconst 1, 1) := dd_at dd_Ca_entry 14 rfl
theorem d_Ca_entry_71 : decode prog_3_method_27_code 71 = .ok (.dreturn, 1) := dd_at dd_Ca_entry 15 rfl
theorem d_Ca_entry_72 : decode prog_3_method_27_code 72 = .ok (.iload 6, 2) := dd_at dd_Ca_entry 16 rfl
theorem d_Ca_entry_74 : decode prog_3_method_27_code 74 = .ok (.iload 7, 2) := dd_at dd_Ca_entry 17 rfl
theorem d_Ca_entry_76 : decode prog_3_method_27_code 76 = .ok (.if_icmp .ne (7), 3) := dd_at dd_Ca_entry 18 rfl
theorem d_Ca_entry_79 : decode prog_3_method_27_code 79 = .ok (.dconst 1, 1) := dd_at dd_Ca_entry 19 rfl
theorem d_Ca_entry_80 : decode prog_3_method_27_code 80 = .ok (.goto (4), 3) := dd_at dd_Ca_entry 20 rfl
theorem d_Ca_entry_83 : decode prog_3_method_27_code 83 = .ok (.dconst 0, 1) := dd_at dd_Ca_entry 21 rfl
theorem d_Ca_entry_84 : decode prog_3_method_27_code 84 = .ok (.dreturn, 1) := dd_at dd_Ca_entry 22 rfl
theorem d_Ca_entry_85 : decode prog_3_method_27_code 85 = .ok (.aload_n 0, 1) := dd_at dd_Ca_entry 23 rfl
theorem d_Ca_entry_86 : decode prog_3_method_27_code 86 = .ok (.aload_n 2, 1) := dd_at dd_Ca_entry 24 rfl
theorem d_Ca_entry_87 : decode prog_3_method_27_code 87 = .ok (.iload 8, 2) := dd_at dd_Ca_entry 25 rfl
theorem d_Ca_entry_89 : decode prog_3_method_27_code 89 = .ok (.invokevirtual 170, 3) := dd_at dd_Ca_entry 26 rfl
theorem d_Ca_entry_92 : decode prog_3_method_27_code 92 = .ok (.aload_n 3, 1) := dd_at dd_Ca_entry 27 rfl
theorem d_Ca_entry_93 : decode prog_3_method_27_code 93 = .ok (.iload 8, 2) := dd_at dd_Ca_entry 28 rfl
theorem d_Ca_entry_95 : decode prog_3_method_27_code 95 = .ok (.invokevirtual 170, 3) := dd_at dd_Ca_entry 29 rfl
theorem d_Ca_entry_98 : decode prog_3_method_27_code 98 = .ok (.dadd, 1) := dd_at dd_Ca_entry 30 rfl
theorem d_Ca_entry_99 : decode prog_3_method_27_code 99 = .ok (.invokevirtual 140, 3) := dd_at dd_Ca_entry 31 rfl
theorem d_Ca_entry_102 : decode prog_3_method_27_code 102 = .ok (.dreturn, 1) := dd_at dd_Ca_entry 32 rfl
theorem d_Ca_entry_103 : decode prog_3_method_27_code 103 = .ok (.aload_n 0, 1) := dd_at dd_Ca_entry 33 rfl
theorem d_Ca_entry_104 : decode prog_3_method_27_code 104 = .ok (.aload_n 2, 1) := dd_at dd_Ca_entry 34 rfl
theorem d_Ca_entry_105 : decode prog_3_method_27_code 105 = .ok (.iload 8, 2) := dd_at dd_Ca_entry 35 rfl
theorem d_Ca_entry_107 : decode prog_3_method_27_code 107 = .ok (.invokevirtual 170, 3) := dd_at dd_Ca_entry 36 rfl
theorem d_Ca_entry_110 : decode prog_3_method_27_code 110 = .ok (.aload_n 3, 1) := dd_at dd_Ca_entry 37 rfl
theorem d_Ca_entry_111 : decode prog_3_method_27_code 111 = .ok (.iload 8, 2) := dd_at dd_Ca_entry 38 rfl
theorem d_Ca_entry_113 : decode prog_3_method_27_code 113 = .ok (.invokevirtual 170, 3) := dd_at dd_Ca_entry 39 rfl
theorem d_Ca_entry_116 : decode prog_3_method_27_code 116 = .ok (.dsub, 1) := dd_at dd_Ca_entry 40 rfl
theorem d_Ca_entry_117 : decode prog_3_method_27_code 117 = .ok (.invokevirtual 140, 3) := dd_at dd_Ca_entry 41 rfl
theorem d_Ca_entry_120 : decode prog_3_method_27_code 120 = .ok (.dreturn, 1) := dd_at dd_Ca_entry 42 rfl
theorem d_Ca_entry_121 : decode prog_3_method_27_code 121 = .ok (.aload_n 0, 1) := dd_at dd_Ca_entry 43 rfl
theorem d_Ca_entry_122 : decode prog_3_method_27_code 122 = .ok (.aload_n 2, 1) := dd_at dd_Ca_entry 44 rfl
theorem d_Ca_entry_123 : decode prog_3_method_27_code 123 = .ok (.aload_n 3, 1) := dd_at dd_Ca_entry 45 rfl
theorem d_Ca_entry_124 : decode prog_3_method_27_code 124 = .ok (.iload 6, 2) := dd_at dd_Ca_entry 46 rfl
theorem d_Ca_entry_126 : decode prog_3_method_27_code 126 = .ok (.iload 7, 2) := dd_at dd_Ca_entry 47 rfl
theorem d_Ca_entry_128 : decode prog_3_method_27_code 128 = .ok (.invokevirtual 244, 3) := dd_at dd_Ca_entry 48 rfl
theorem d_Ca_entry_131 : decode prog_3_method_27_code 131 = .ok (.dreturn, 1) := dd_at dd_Ca_entry 49 rfl
theorem d_Ca_entry_132 : decode prog_3_method_27_code 132 = .ok (.aload_n 2, 1) := dd_at dd_Ca_entry 50 rfl
theorem d_Ca_entry_133 : decode prog_3_method_27_code 133 = .ok (.aload_n 2, 1) := dd_at dd_Ca_entry 51 rfl
theorem d_Ca_entry_134 : decode prog_3_method_27_code 134 = .ok (.iload 7, 2) := dd_at dd_Ca_entry 52 rfl
theorem d_Ca_entry_136 : decode prog_3_method_27_code 136 = .ok (.i2l, 1) := dd_at dd_Ca_entry 53 rfl
theorem d_Ca_entry_137 : decode prog_3_method_27_code 137 = .ok (.iload 6, 2) := dd_at dd_Ca_entry 54 rfl
theorem d_Ca_entry_139 : decode prog_3_method_27_code 139 = .ok (.i2l, 1) := dd_at dd_Ca_entry 55 rfl
theorem d_Ca_entry_140 : decode prog_3_method_27_code 140 = .ok (.invokevirtual 163, 3) := dd_at dd_Ca_entry 56 rfl
theorem d_Ca_entry_143 : decode prog_3_method_27_code 143 = .ok (.invokevirtual 170, 3) := dd_at dd_Ca_entry 57 rfl
theorem d_Ca_entry_146 : decode prog_3_method_27_code 146 = .ok (.dreturn, 1) := dd_at dd_Ca_entry 58 rfl
theorem d_Ca_entry_147 : decode prog_3_method_27_code 147 = .ok (.aload_n 0, 1) := dd_at dd_Ca_entry 59 rfl
theorem d_Ca_entry_148 : decode prog_3_method_27_code 148 = .ok (.dload 4, 2) := dd_at dd_Ca_entry 60 rfl
theorem d_Ca_entry_150 : decode prog_3_method_27_code 150 = .ok (.aload_n 2, 1) := dd_at dd_Ca_entry 61 rfl
theorem d_Ca_entry_151 : decode prog_3_method_27_code 151 = .ok (.iload 8, 2) := dd_at dd_Ca_entry 62 rfl
theorem d_Ca_entry_153 : decode prog_3_method_27_code 153 = .ok (.invokevirtual 170, 3) := dd_at dd_Ca_entry 63 rfl
theorem d_Ca_entry_156 : decode prog_3_method_27_code 156 = .ok (.dmul, 1) := dd_at dd_Ca_entry 64 rfl
theorem d_Ca_entry_157 : decode prog_3_method_27_code 157 = .ok (.invokevirtual 140, 3) := dd_at dd_Ca_entry 65 rfl
theorem d_Ca_entry_160 : decode prog_3_method_27_code 160 = .ok (.dreturn, 1) := dd_at dd_Ca_entry 66 rfl
theorem d_Ca_entry_161 : decode prog_3_method_27_code 161 = .ok (.aload_n 2, 1) := dd_at dd_Ca_entry 67 rfl
theorem d_Ca_entry_162 : decode prog_3_method_27_code 162 = .ok (.iload 8, 2) := dd_at dd_Ca_entry 68 rfl
theorem d_Ca_entry_164 : decode prog_3_method_27_code 164 = .ok (.invokevirtual 170, 3) := dd_at dd_Ca_entry 69 rfl
theorem d_Ca_entry_167 : decode prog_3_method_27_code 167 = .ok (.dreturn, 1) := dd_at dd_Ca_entry 70 rfl
def ld_Pa_word : List (Nat × Instr × Nat) := [(0, .iconst 0, 1), (1, .istore_n 2, 1), (2, .iload_n 2, 1), (3, .aload_n 1, 1), (4, .invokevirtual 59, 3), (7, .if_icmp .ge (23), 3), (10, .aload_n 0, 1), (11, .aload_n 1, 1), (12, .iload_n 2, 1), (13, .invokevirtual 64, 3), (16, .invokevirtual 68, 3), (19, .ifCond .ne (5), 3), (22, .iconst 0, 1), (23, .ireturn, 1), (24, .iinc 2 (1), 3), (27, .goto (-25), 3), (30, .iconst 1, 1), (31, .ireturn, 1)]
theorem dd_Pa_word : (ld_Pa_word).all (dOK prog_10_method_7_code) = true := by decide +kernel
theorem d_Pa_word_0 : decode prog_10_method_7_code 0 = .ok (.iconst 0, 1) := dd_at dd_Pa_word 0 rfl
theorem d_Pa_word_1 : decode prog_10_method_7_code 1 = .ok (.istore_n 2, 1) := dd_at dd_Pa_word 1 rfl
theorem d_Pa_word_2 : decode prog_10_method_7_code 2 = .ok (.iload_n 2, 1) := dd_at dd_Pa_word 2 rfl
theorem d_Pa_word_3 : decode prog_10_method_7_code 3 = .ok (.aload_n 1, 1) := dd_at dd_Pa_word 3 rfl
theorem d_Pa_word_4 : decode prog_10_method_7_code 4 = .ok (.invokevirtual 59, 3) := dd_at dd_Pa_word 4 rfl
theorem d_Pa_word_7 : decode prog_10_method_7_code 7 = .ok (.if_icmp .ge (23), 3) := dd_at dd_Pa_word 5 rfl
theorem d_Pa_word_10 : decode prog_10_method_7_code 10 = .ok (.aload_n 0, 1) := dd_at dd_Pa_word 6 rfl
theorem d_Pa_word_11 : decode prog_10_method_7_code 11 = .ok (.aload_n 1, 1) := dd_at dd_Pa_word 7 rfl
theorem d_Pa_word_12 : decode prog_10_method_7_code 12 = .ok (.iload_n 2, 1) := dd_at dd_Pa_word 8 rfl
theorem d_Pa_word_13 : decode prog_10_method_7_code 13 = .ok (.invokevirtual 64, 3) := dd_at dd_Pa_word 9 rfl
theorem d_Pa_word_16 : decode prog_10_method_7_code 16 = .ok (.invokevirtual 68, 3) := dd_at dd_Pa_word 10 rfl
theorem d_Pa_word_19 : decode prog_10_method_7_code 19 = .ok (.ifCond .ne (5), 3) := dd_at dd_Pa_word 11 rfl
theorem d_Pa_word_22 : decode prog_10_method_7_code 22 = .ok (.iconst 0, 1) := dd_at dd_Pa_word 12 rfl
theorem d_Pa_word_23 : decode prog_10_method_7_code 23 = .ok (.ireturn, 1) := dd_at dd_Pa_word 13 rfl
theorem d_Pa_word_24 : decode prog_10_method_7_code 24 = .ok (.iinc 2 (1), 3) := dd_at dd_Pa_word 14 rfl
theorem d_Pa_word_27 : decode prog_10_method_7_code 27 = .ok (.goto (-25), 3) := dd_at dd_Pa_word 15 rfl
theorem d_Pa_word_30 : decode prog_10_method_7_code 30 = .ok (.iconst 1, 1) := dd_at dd_Pa_word 16 rfl
theorem d_Pa_word_31 : decode prog_10_method_7_code 31 = .ok (.ireturn, 1) := dd_at dd_Pa_word 17 rfl
def ld_Pa_sharedLength : List (Nat × Instr × Nat) := [(0, .iconst 0, 1), (1, .istore_n 2, 1), (2, .iload_n 2, 1), (3, .aload_n 1, 1), (4, .invokevirtual 59, 3), (7, .if_icmp .ge (22), 3), (10, .aload_n 0, 1), (11, .iload_n 2, 1), (12, .invokevirtual 96, 3), (15, .aload_n 1, 1), (16, .iload_n 2, 1), (17, .invokevirtual 64, 3), (20, .if_icmp .ne (9), 3), (23, .iinc 2 (1), 3), (26, .goto (-24), 3), (29, .iload_n 2, 1), (30, .ireturn, 1)]
theorem dd_Pa_sharedLength : (ld_Pa_sharedLength).all (dOK prog_10_method_9_code) = true := by decide +kernel
theorem d_Pa_sharedLength_0 : decode prog_10_method_9_code 0 = .ok (.iconst 0, 1) := dd_at dd_Pa_sharedLength 0 rfl
theorem d_Pa_sharedLength_1 : decode prog_10_method_9_code 1 = .ok (.istore_n 2, 1) := dd_at dd_Pa_sharedLength 1 rfl
theorem d_Pa_sharedLength_2 : decode prog_10_method_9_code 2 = .ok (.iload_n 2, 1) := dd_at dd_Pa_sharedLength 2 rfl
theorem d_Pa_sharedLength_3 : decode prog_10_method_9_code 3 = .ok (.aload_n 1, 1) := dd_at dd_Pa_sharedLength 3 rfl
theorem d_Pa_sharedLength_4 : decode prog_10_method_9_code 4 = .ok (.invokevirtual 59, 3) := dd_at dd_Pa_sharedLength 4 rfl
theorem d_Pa_sharedLength_7 : decode prog_10_method_9_code 7 = .ok (.if_icmp .ge (22), 3) := dd_at dd_Pa_sharedLength 5 rfl
theorem d_Pa_sharedLength_10 : decode prog_10_method_9_code 10 = .ok (.aload_n 0, 1) := dd_at dd_Pa_sharedLength 6 rfl
theorem d_Pa_sharedLength_11 : decode prog_10_method_9_code 11 = .ok (.iload_n 2, 1) := dd_at dd_Pa_sharedLength 7 rfl
theorem d_Pa_sharedLength_12 : decode prog_10_method_9_code 12 = .ok (.invokevirtual 96, 3) := dd_at dd_Pa_sharedLength 8 rfl
theorem d_Pa_sharedLength_15 : decode prog_10_method_9_code 15 = .ok (.aload_n 1, 1) := dd_at dd_Pa_sharedLength 9 rfl
theorem d_Pa_sharedLength_16 : decode prog_10_method_9_code 16 = .ok (.iload_n 2, 1) := dd_at dd_Pa_sharedLength 10 rfl
theorem d_Pa_sharedLength_17 : decode prog_10_method_9_code 17 = .ok (.invokevirtual 64, 3) := dd_at dd_Pa_sharedLength 11 rfl
theorem d_Pa_sharedLength_20 : decode prog_10_method_9_code 20 = .ok (.if_icmp .ne (9), 3) := dd_at dd_Pa_sharedLength 12 rfl
theorem d_Pa_sharedLength_23 : decode prog_10_method_9_code 23 = .ok (.iinc 2 (1), 3) := dd_at dd_Pa_sharedLength 13 rfl
theorem d_Pa_sharedLength_26 : decode prog_10_method_9_code 26 = .ok (.goto (-24), 3) := dd_at dd_Pa_sharedLength 14 rfl
theorem d_Pa_sharedLength_29 : decode prog_10_method_9_code 29 = .ok (.iload_n 2, 1) := dd_at dd_Pa_sharedLength 15 rfl
theorem d_Pa_sharedLength_30 : decode prog_10_method_9_code 30 = .ok (.ireturn, 1) := dd_at dd_Pa_sharedLength 16 rfl
def ld_Pa_lineNumber : List (Nat × Instr × Nat) := [(0, .aload_n 0, 1), (1, .iconst 0, 1), (2, .putfield 40, 3), (5, .iconst 1, 1), (6, .istore_n 1, 1), (7, .iload_n 1, 1), (8, .iconst 3, 1), (9, .if_icmp .gt (61), 3), (12, .aload_n 0, 1), (13, .invokevirtual 157, 3), (16, .invokestatic 160, 3), (19, .ifCond .eq (51), 3), (22, .aload_n 0, 1), (23, .getfield 40, 3), (26, .bipush (10), 2), (28, .imul, 1), (29, .aload_n 0, 1), (30, .invokevirtual 157, 3), (33, .iadd, 1), (34, .bipush (48), 2), (36, .isub, 1), (37, .istore_n 2, 1), (38, .iload_n 1, 1), (39, .iconst 3, 1), (40, .if_icmp .ne (9), 3), (43, .iload_n 2, 1), (44, .ifCond .ne (5), 3), (47, .iconst 0, 1), (48, .ireturn, 1), (49, .aload_n 0, 1), (50, .iload_n 2, 1), (51, .putfield 40, 3), (54, .aload_n 0, 1), (55, .dup, 1), (56, .getfield 26, 3), (59, .iconst 1, 1), (60, .iadd, 1), (61, .putfield 26, 3), (64, .iinc 1 (1), 3), (67, .goto (-60), 3), (70, .aload_n 0, 1), (71, .getfield 40, 3), (74, .ifCond .le (7), 3), (77, .iconst 1, 1), (78, .goto (4), 3), (81, .iconst 0, 1), (82, .ireturn, 1)]
theorem dd_Pa_lineNumber : (ld_Pa_lineNumber).all (dOK prog_10_method_12_code) = true := by decide +kernel
theorem d_Pa_lineNumber_0 : decode prog_10_method_12_code 0 = .ok (.aload_n 0, 1) := dd_at dd_Pa_lineNumber 0 rfl
theorem d_Pa_lineNumber_1 : decode prog_10_method_12_code 1 = .ok (.iconst 0, 1) := dd_at dd_Pa_lineNumber 1 rfl
theorem d_Pa_lineNumber_2 : decode prog_10_method_12_code 2 = .ok (.putfield 40, 3) := dd_at dd_Pa_lineNumber 2 rfl
theorem d_Pa_lineNumber_5 : decode prog_10_method_12_code 5 = .ok (.iconst 1, 1) := dd_at dd_Pa_lineNumber 3 rfl
theorem d_Pa_lineNumber_6 : decode prog_10_method_12_code 6 = .ok (.istore_n 1, 1) := dd_at dd_Pa_lineNumber 4 rfl
theorem d_Pa_lineNumber_7 : decode prog_10_method_12_code 7 = .ok (.iload_n 1, 1) := dd_at dd_Pa_lineNumber 5 rfl
theorem d_Pa_lineNumber_8 : decode prog_10_method_12_code 8 = .ok (.iconst 3, 1) := dd_at dd_Pa_lineNumber 6 rfl
theorem d_Pa_lineNumber_9 : decode prog_10_method_12_code 9 = .ok (.if_icmp .gt (61), 3) := dd_at dd_Pa_lineNumber 7 rfl
theorem d_Pa_lineNumber_12 : decode prog_10_method_12_code 12 = .ok (.aload_n 0, 1) := dd_at dd_Pa_lineNumber 8 rfl
theorem d_Pa_lineNumber_13 : decode prog_10_method_12_code 13 = .ok (.invokevirtual 157, 3) := dd_at dd_Pa_lineNumber 9 rfl
theorem d_Pa_lineNumber_16 : decode prog_10_method_12_code 16 = .ok (.invokestatic 160, 3) := dd_at dd_Pa_lineNumber 10 rfl
theorem d_Pa_lineNumber_19 : decode prog_10_method_12_code 19 = .ok (.ifCond .eq (51), 3) := dd_at dd_Pa_lineNumber 11 rfl
theorem d_Pa_lineNumber_22 : decode prog_10_method_12_code 22 = .ok (.aload_n 0, 1) := dd_at dd_Pa_lineNumber 12 rfl
theorem d_Pa_lineNumber_23 : decode prog_10_method_12_code 23 = .ok (.getfield 40, 3) := dd_at dd_Pa_lineNumber 13 rfl
theorem d_Pa_lineNumber_26 : decode prog_10_method_12_code 26 = .ok (.bipush (10), 2) := dd_at dd_Pa_lineNumber 14 rfl
theorem d_Pa_lineNumber_28 : decode prog_10_method_12_code 28 = .ok (.imul, 1) := dd_at dd_Pa_lineNumber 15 rfl
theorem d_Pa_lineNumber_29 : decode prog_10_method_12_code 29 = .ok (.aload_n 0, 1) := dd_at dd_Pa_lineNumber 16 rfl
theorem d_Pa_lineNumber_30 : decode prog_10_method_12_code 30 = .ok (.invokevirtual 157, 3) := dd_at dd_Pa_lineNumber 17 rfl
theorem d_Pa_lineNumber_33 : decode prog_10_method_12_code 33 = .ok (.iadd, 1) := dd_at dd_Pa_lineNumber 18 rfl
theorem d_Pa_lineNumber_34 : decode prog_10_method_12_code 34 = .ok (.bipush (48), 2) := dd_at dd_Pa_lineNumber 19 rfl
theorem d_Pa_lineNumber_36 : decode prog_10_method_12_code 36 = .ok (.isub, 1) := dd_at dd_Pa_lineNumber 20 rfl
theorem d_Pa_lineNumber_37 : decode prog_10_method_12_code 37 = .ok (.istore_n 2, 1) := dd_at dd_Pa_lineNumber 21 rfl
theorem d_Pa_lineNumber_38 : decode prog_10_method_12_code 38 = .ok (.iload_n 1, 1) := dd_at dd_Pa_lineNumber 22 rfl
theorem d_Pa_lineNumber_39 : decode prog_10_method_12_code 39 = .ok (.iconst 3, 1) := dd_at dd_Pa_lineNumber 23 rfl
theorem d_Pa_lineNumber_40 : decode prog_10_method_12_code 40 = .ok (.if_icmp .ne (9), 3) := dd_at dd_Pa_lineNumber 24 rfl
theorem d_Pa_lineNumber_43 : decode prog_10_method_12_code 43 = .ok (.iload_n 2, 1) := dd_at dd_Pa_lineNumber 25 rfl
theorem d_Pa_lineNumber_44 : decode prog_10_method_12_code 44 = .ok (.ifCond .ne (5), 3) := dd_at dd_Pa_lineNumber 26 rfl
theorem d_Pa_lineNumber_47 : decode prog_10_method_12_code 47 = .ok (.iconst 0, 1) := dd_at dd_Pa_lineNumber 27 rfl
theorem d_Pa_lineNumber_48 : decode prog_10_method_12_code 48 = .ok (.ireturn, 1) := dd_at dd_Pa_lineNumber 28 rfl
theorem d_Pa_lineNumber_49 : decode prog_10_method_12_code 49 = .ok (.aload_n 0, 1) := dd_at dd_Pa_lineNumber 29 rfl
theorem d_Pa_lineNumber_50 : decode prog_10_method_12_code 50 = .ok (.iload_n 2, 1) := dd_at dd_Pa_lineNumber 30 rfl
theorem d_Pa_lineNumber_51 : decode prog_10_method_12_code 51 = .ok (.putfield 40, 3) := dd_at dd_Pa_lineNumber 31 rfl
theorem d_Pa_lineNumber_54 : decode prog_10_method_12_code 54 = .ok (.aload_n 0, 1) := dd_at dd_Pa_lineNumber 32 rfl
theorem d_Pa_lineNumber_55 : decode prog_10_method_12_code 55 = .ok (.dup, 1) := dd_at dd_Pa_lineNumber 33 rfl
theorem d_Pa_lineNumber_56 : decode prog_10_method_12_code 56 = .ok (.getfield 26, 3) := dd_at dd_Pa_lineNumber 34 rfl
theorem d_Pa_lineNumber_59 : decode prog_10_method_12_code 59 = .ok (.iconst 1, 1) := dd_at dd_Pa_lineNumber 35 rfl
theorem d_Pa_lineNumber_60 : decode prog_10_method_12_code 60 = .ok (.iadd, 1) := dd_at dd_Pa_lineNumber 36 rfl
theorem d_Pa_lineNumber_61 : decode prog_10_method_12_code 61 = .ok (.putfield 26, 3) := dd_at dd_Pa_lineNumber 37 rfl
theorem d_Pa_lineNumber_64 : decode prog_10_method_12_code 64 = .ok (.iinc 1 (1), 3) := dd_at dd_Pa_lineNumber 38 rfl
theorem d_Pa_lineNumber_67 : decode prog_10_method_12_code 67 = .ok (.goto (-60), 3) := dd_at dd_Pa_lineNumber 39 rfl
theorem d_Pa_lineNumber_70 : decode prog_10_method_12_code 70 = .ok (.aload_n 0, 1) := dd_at dd_Pa_lineNumber 40 rfl
theorem d_Pa_lineNumber_71 : decode prog_10_method_12_code 71 = .ok (.getfield 40, 3) := dd_at dd_Pa_lineNumber 41 rfl
theorem d_Pa_lineNumber_74 : decode prog_10_method_12_code 74 = .ok (.ifCond .le (7), 3) := dd_at dd_Pa_lineNumber 42 rfl
theorem d_Pa_lineNumber_77 : decode prog_10_method_12_code 77 = .ok (.iconst 1, 1) := dd_at dd_Pa_lineNumber 43 rfl
theorem d_Pa_lineNumber_78 : decode prog_10_method_12_code 78 = .ok (.goto (4), 3) := dd_at dd_Pa_lineNumber 44 rfl
theorem d_Pa_lineNumber_81 : decode prog_10_method_12_code 81 = .ok (.iconst 0, 1) := dd_at dd_Pa_lineNumber 45 rfl
theorem d_Pa_lineNumber_82 : decode prog_10_method_12_code 82 = .ok (.ireturn, 1) := dd_at dd_Pa_lineNumber 46 rfl
def ld_Pa_jump : List (Nat × Instr × Nat) := [(0, .aload_n 0, 1), (1, .invokevirtual 36, 3), (4, .ifCond .ne (5), 3), (7, .iconst 0, 1), (8, .ireturn, 1), (9, .aload_n 0, 1), (10, .getfield 12, 3), (13, .aload_n 0, 1), (14, .getfield 40, 3), (17, .invokevirtual 164, 3), (20, .iconst 1, 1), (21, .ireturn, 1)]
theorem dd_Pa_jump : (ld_Pa_jump).all (dOK prog_10_method_13_code) = true := by decide +kernel
theorem d_Pa_jump_0 : decode prog_10_method_13_code 0 = .ok (.aload_n 0, 1) := dd_at dd_Pa_jump 0 rfl
theorem d_Pa_jump_1 : decode prog_10_method_13_code 1 = .ok (.invokevirtual 36, 3) := dd_at dd_Pa_jump 1 rfl
theorem d_Pa_jump_4 : decode prog_10_method_13_code 4 = .ok (.ifCond .ne (5), 3) := dd_at dd_Pa_jump 2 rfl
theorem d_Pa_jump_7 : decode prog_10_method_13_code 7 = .ok (.iconst 0, 1) := dd_at dd_Pa_jump 3 rfl
theorem d_Pa_jump_8 : decode prog_10_method_13_code 8 = .ok (.ireturn, 1) := dd_at dd_Pa_jump 4 rfl
theorem d_Pa_jump_9 : decode prog_10_method_13_code 9 = .ok (.aload_n 0, 1) := dd_at dd_Pa_jump 5 rfl
theorem d_Pa_jump_10 : decode prog_10_method_13_code 10 = .ok (.getfield 12, 3) := dd_at dd_Pa_jump 6 rfl
theorem d_Pa_jump_13 : decode prog_10_method_13_code 13 = .ok (.aload_n 0, 1) := dd_at dd_Pa_jump 7 rfl
theorem d_Pa_jump_14 : decode prog_10_method_13_code 14 = .ok (.getfield 40, 3) := dd_at dd_Pa_jump 8 rfl
theorem d_Pa_jump_17 : decode prog_10_method_13_code 17 = .ok (.invokevirtual 164, 3) := dd_at dd_Pa_jump 9 rfl
theorem d_Pa_jump_20 : decode prog_10_method_13_code 20 = .ok (.iconst 1, 1) := dd_at dd_Pa_jump 10 rfl
theorem d_Pa_jump_21 : decode prog_10_method_13_code 21 = .ok (.ireturn, 1) := dd_at dd_Pa_jump 11 rfl
def ld_Pa_jumps : List (Nat × Instr × Nat) := [(0, .aload_n 0, 1), (1, .invokevirtual 123, 3), (4, .istore_n 1, 1), (5, .iconst 1, 1), (6, .istore_n 2, 1), (7, .iload_n 2, 1), (8, .iconst 4, 1), (9, .if_icmp .ge (27), 3), (12, .iload_n 1, 1), (13, .ifCond .eq (23), 3), (16, .aload_n 0, 1), (17, .bipush (44), 2), (19, .invokevirtual 68, 3), (22, .ifCond .eq (14), 3), (25, .aload_n 0, 1), (26, .invokevirtual 123, 3), (29, .istore_n 1, 1), (30, .iinc 2 (1), 3), (33, .goto (-26), 3), (36, .iload_n 1, 1), (37, .ireturn, 1)]
theorem dd_Pa_jumps : (ld_Pa_jumps).all (dOK prog_10_method_14_code) = true := by decide +kernel
theorem d_Pa_jumps_0 : decode prog_10_method_14_code 0 = .ok (.aload_n 0, 1) := dd_at dd_Pa_jumps 0 rfl
theorem d_Pa_jumps_1 : decode prog_10_method_14_code 1 = .ok (.invokevirtual 123, 3) := dd_at dd_Pa_jumps 1 rfl
theorem d_Pa_jumps_4 : decode prog_10_method_14_code 4 = .ok (.istore_n 1, 1) := dd_at dd_Pa_jumps 2 rfl
theorem d_Pa_jumps_5 : decode prog_10_method_14_code 5 = .ok (.iconst 1, 1) := dd_at dd_Pa_jumps 3 rfl
theorem d_Pa_jumps_6 : decode prog_10_method_14_code 6 = .ok (.istore_n 2, 1) := dd_at dd_Pa_jumps 4 rfl
theorem d_Pa_jumps_7 : decode prog_10_method_14_code 7 = .ok (.iload_n 2, 1) := dd_at dd_Pa_jumps 5 rfl
theorem d_Pa_jumps_8 : decode prog_10_method_14_code 8 = .ok (.iconst 4, 1) := dd_at dd_Pa_jumps 6 rfl
theorem d_Pa_jumps_9 : decode prog_10_method_14_code 9 = .ok (.if_icmp .ge (27), 3) := dd_at dd_Pa_jumps 7 rfl
theorem d_Pa_jumps_12 : decode prog_10_method_14_code 12 = .ok (.iload_n 1, 1) := dd_at dd_Pa_jumps 8 rfl
theorem d_Pa_jumps_13 : decode prog_10_method_14_code 13 = .ok (.ifCond .eq (23), 3) := dd_at dd_Pa_jumps 9 rfl
theorem d_Pa_jumps_16 : decode prog_10_method_14_code 16 = .ok (.aload_n 0, 1) := dd_at dd_Pa_jumps 10 rfl
theorem d_Pa_jumps_17 : decode prog_10_method_14_code 17 = .ok (.bipush (44), 2) := dd_at dd_Pa_jumps 11 rfl
theorem d_Pa_jumps_19 : decode prog_10_method_14_code 19 = .ok (.invokevirtual 68, 3) := dd_at dd_Pa_jumps 12 rfl
theorem d_Pa_jumps_22 : decode prog_10_method_14_code 22 = .ok (.ifCond .eq (14), 3) := dd_at dd_Pa_jumps 13 rfl
theorem d_Pa_jumps_25 : decode prog_10_method_14_code 25 = .ok (.aload_n 0, 1) := dd_at dd_Pa_jumps 14 rfl
theorem d_Pa_jumps_26 : decode prog_10_method_14_code 26 = .ok (.invokevirtual 123, 3) := dd_at dd_Pa_jumps 15 rfl
theorem d_Pa_jumps_29 : decode prog_10_method_14_code 29 = .ok (.istore_n 1, 1) := dd_at dd_Pa_jumps 16 rfl
theorem d_Pa_jumps_30 : decode prog_10_method_14_code 30 = .ok (.iinc 2 (1), 3) := dd_at dd_Pa_jumps 17 rfl
theorem d_Pa_jumps_33 : decode prog_10_method_14_code 33 = .ok (.goto (-26), 3) := dd_at dd_Pa_jumps 18 rfl
theorem d_Pa_jumps_36 : decode prog_10_method_14_code 36 = .ok (.iload_n 1, 1) := dd_at dd_Pa_jumps 19 rfl
theorem d_Pa_jumps_37 : decode prog_10_method_14_code 37 = .ok (.ireturn, 1) := dd_at dd_Pa_jumps 20 rfl
def ld_Pa_numeral : List (Nat × Instr × Nat) := [(0, .aload_n 0, 1), (1, .invokevirtual 157, 3), (4, .invokestatic 160, 3), (7, .ifCond .ne (5), 3), (10, .iconst 0, 1), (11, .ireturn, 1), (12, .aload_n 0, 1), (13, .iconst 0, 1), (14, .putfield 40, 3), (17, .iconst 0, 1), (18, .istore_n 1, 1), (19, .iload_n 1, 1), (20, .bipush (6), 2), (22, .if_icmp .ge (48), 3), (25, .aload_n 0, 1), (26, .invokevirtual 157, 3), (29, .invokestatic 160, 3), (32, .ifCond .eq (38), 3), (35, .aload_n 0, 1), (36, .aload_n 0, 1), (37, .getfield 40, 3), (40, .bipush (10), 2), (42, .imul, 1), (43, .aload_n 0, 1), (44, .invokevirtual 157, 3), (47, .iadd, 1), (48, .bipush (48), 2), (50, .isub, 1), (51, .putfield 40, 3), (54, .aload_n 0, 1), (55, .dup, 1), (56, .getfield 26, 3), (59, .iconst 1, 1), (60, .iadd, 1), (61, .putfield 26, 3), (64, .iinc 1 (1), 3), (67, .goto (-48), 3), (70, .aload_n 0, 1), (71, .bipush (46), 2), (73, .invokevirtual 68, 3), (76, .istore_n 1, 1), (77, .iload_n 1, 1), (78, .ifCond .eq (15), 3), (81, .aload_n 0, 1), (82, .invokevirtual 157, 3), (85, .invokestatic 160, 3), (88, .ifCond .ne (5), 3), (91, .iconst 0, 1), (92, .ireturn, 1), (93, .iconst 0, 1), (94, .istore_n 2, 1), (95, .iload_n 2, 1), (96, .iconst 3, 1), (97, .if_icmp .ge (74), 3), (100, .iload_n 1, 1), (101, .ifCond .eq (17), 3), (104, .aload_n 0, 1), (105, .invokevirtual 157, 3), (108, .invokestatic 160, 3), (111, .ifCond .eq (7), 3), (114, .iconst 1, 1), (115, .goto (4), 3), (118, .iconst 0, 1), (119, .istore_n 3, 1), (120, .aload_n 0, 1), (121, .aload_n 0, 1), (122, .getfield 40, 3), (125, .bipush (10), 2), (127, .imul, 1), (128, .iload_n 3, 1), (129, .ifCond .eq (13), 3), (132, .aload_n 0, 1), (133, .invokevirtual 157, 3), (136, .bipush (48), 2), (138, .isub, 1), (139, .goto (4), 3), (142, .iconst 0, 1), (143, .iadd, 1), (144, .putfield 40, 3), (147, .aload_n 0, 1), (148, .dup, 1), (149, .getfield 26, 3), (152, .iload_n 3, 1), (153, .ifCond .eq (7), 3), (156, .iconst 1, 1), (157, .goto (4), 3), (160, .iconst 0, 1), (161, .iadd, 1), (162, .putfield 26, 3), (165, .iinc 2 (1), 3), (168, .goto (-73), 3), (171, .iconst 1, 1), (172, .ireturn, 1)]
theorem dd_Pa_numeral : (ld_Pa_numeral).all (dOK prog_10_method_17_code) = true := by decide +kernel
theorem d_Pa_numeral_0 : decode prog_10_method_17_code 0 = .ok (.aload_n 0, 1) := dd_at dd_Pa_numeral 0 rfl
theorem d_Pa_numeral_1 : decode prog_10_method_17_code 1 = .ok (.invokevirtual 157, 3) := dd_at dd_Pa_numeral 1 rfl
theorem d_Pa_numeral_4 : decode prog_10_method_17_code 4 = .ok (.invokestatic 160, 3) := dd_at dd_Pa_numeral 2 rfl
theorem d_Pa_numeral_7 : decode prog_10_method_17_code 7 = .ok (.ifCond .ne (5), 3) := dd_at dd_Pa_numeral 3 rfl
theorem d_Pa_numeral_10 : decode prog_10_method_17_code 10 = .ok (.iconst 0, 1) := dd_at dd_Pa_numeral 4 rfl
theorem d_Pa_numeral_11 : decode prog_10_method_17_code 11 = .ok (.ireturn, 1) := dd_at dd_Pa_numeral 5 rfl
theorem d_Pa_numeral_12 : decode prog_10_method_17_code 12 = .ok (.aload_n 0, 1) := dd_at dd_Pa_numeral 6 rfl
theorem d_Pa_numeral_13 : decode prog_10_method_17_code 13 = .ok (.iconst 0, 1) := dd_at dd_Pa_numeral 7 rfl
theorem d_Pa_numeral_14 : decode prog_10_method_17_code 14 = .ok (.putfield 40, 3) := dd_at dd_Pa_numeral 8 rfl
theorem d_Pa_numeral_17 : decode prog_10_method_17_code 17 = .ok (.iconst 0, 1) := dd_at dd_Pa_numeral 9 rfl
theorem d_Pa_numeral_18 : decode prog_10_method_17_code 18 = .ok (.istore_n 1, 1) := dd_at dd_Pa_numeral 10 rfl
theorem d_Pa_numeral_19 : decode prog_10_method_17_code 19 = .ok (.iload_n 1, 1) := dd_at dd_Pa_numeral 11 rfl
theorem d_Pa_numeral_20 : decode prog_10_method_17_code 20 = .ok (.bipush (6), 2) := dd_at dd_Pa_numeral 12 rfl
theorem d_Pa_numeral_22 : decode prog_10_method_17_code 22 = .ok (.if_icmp .ge (48), 3) := dd_at dd_Pa_numeral 13 rfl
theorem d_Pa_numeral_25 : decode prog_10_method_17_code 25 = .ok (.aload_n 0, 1) := dd_at dd_Pa_numeral 14 rfl
theorem d_Pa_numeral_26 : decode prog_10_method_17_code 26 = .ok (.invokevirtual 157, 3) := dd_at dd_Pa_numeral 15 rfl
theorem d_Pa_numeral_29 : decode prog_10_method_17_code 29 = .ok (.invokestatic 160, 3) := dd_at dd_Pa_numeral 16 rfl
theorem d_Pa_numeral_32 : decode prog_10_method_17_code 32 = .ok (.ifCond .eq (38), 3) := dd_at dd_Pa_numeral 17 rfl
theorem d_Pa_numeral_35 : decode prog_10_method_17_code 35 = .ok (.aload_n 0, 1) := dd_at dd_Pa_numeral 18 rfl
theorem d_Pa_numeral_36 : decode prog_10_method_17_code 36 = .ok (.aload_n 0, 1) := dd_at dd_Pa_numeral 19 rfl
theorem d_Pa_numeral_37 : decode prog_10_method_17_code 37 = .ok (.getfield 40, 3) := dd_at dd_Pa_numeral 20 rfl
theorem d_Pa_numeral_40 : decode prog_10_method_17_code 40 = .ok (.bipush (10), 2) := dd_at dd_Pa_numeral 21 rfl
theorem d_Pa_numeral_42 : decode prog_10_method_17_code 42 = .ok (.imul, 1) := dd_at dd_Pa_numeral 22 rfl
theorem d_Pa_numeral_43 : decode prog_10_method_17_code 43 = .ok (.aload_n 0, 1) := dd_at dd_Pa_numeral 23 rfl
theorem d_Pa_numeral_44 : decode prog_10_method_17_code 44 = .ok (.invokevirtual 157, 3) := dd_at dd_Pa_numeral 24 rfl
theorem d_Pa_numeral_47 : decode prog_10_method_17_code 47 = .ok (.iadd, 1) := dd_at dd_Pa_numeral 25 rfl
theorem d_Pa_numeral_48 : decode prog_10_method_17_code 48 = .ok (.bipush (48), 2) := dd_at dd_Pa_numeral 26 rfl
theorem d_Pa_numeral_50 : decode prog_10_method_17_code 50 = .ok (.isub, 1) := dd_at dd_Pa_numeral 27 rfl
theorem d_Pa_numeral_51 : decode prog_10_method_17_code 51 = .ok (.putfield 40, 3) := dd_at dd_Pa_numeral 28 rfl
theorem d_Pa_numeral_54 : decode prog_10_method_17_code 54 = .ok (.aload_n 0, 1) := dd_at dd_Pa_numeral 29 rfl
theorem d_Pa_numeral_55 : decode prog_10_method_17_code 55 = .ok (.dup, 1) := dd_at dd_Pa_numeral 30 rfl
theorem d_Pa_numeral_56 : decode prog_10_method_17_code 56 = .ok (.getfield 26, 3) := dd_at dd_Pa_numeral 31 rfl
theorem d_Pa_numeral_59 : decode prog_10_method_17_code 59 = .ok (.iconst 1, 1) := dd_at dd_Pa_numeral 32 rfl
theorem d_Pa_numeral_60 : decode prog_10_method_17_code 60 = .ok (.iadd, 1) := dd_at dd_Pa_numeral 33 rfl
theorem d_Pa_numeral_61 : decode prog_10_method_17_code 61 = .ok (.putfield 26, 3) := dd_at dd_Pa_numeral 34 rfl
theorem d_Pa_numeral_64 : decode prog_10_method_17_code 64 = .ok (.iinc 1 (1), 3) := dd_at dd_Pa_numeral 35 rfl
theorem d_Pa_numeral_67 : decode prog_10_method_17_code 67 = .ok (.goto (-48), 3) := dd_at dd_Pa_numeral 36 rfl
theorem d_Pa_numeral_70 : decode prog_10_method_17_code 70 = .ok (.aload_n 0, 1) := dd_at dd_Pa_numeral 37 rfl
theorem d_Pa_numeral_71 : decode prog_10_method_17_code 71 = .ok (.bipush (46), 2) := dd_at dd_Pa_numeral 38 rfl
theorem d_Pa_numeral_73 : decode prog_10_method_17_code 73 = .ok (.invokevirtual 68, 3) := dd_at dd_Pa_numeral 39 rfl
theorem d_Pa_numeral_76 : decode prog_10_method_17_code 76 = .ok (.istore_n 1, 1) := dd_at dd_Pa_numeral 40 rfl
theorem d_Pa_numeral_77 : decode prog_10_method_17_code 77 = .ok (.iload_n 1, 1) := dd_at dd_Pa_numeral 41 rfl
theorem d_Pa_numeral_78 : decode prog_10_method_17_code 78 = .ok (.ifCond .eq (15), 3) := dd_at dd_Pa_numeral 42 rfl
theorem d_Pa_numeral_81 : decode prog_10_method_17_code 81 = .ok (.aload_n 0, 1) := dd_at dd_Pa_numeral 43 rfl
theorem d_Pa_numeral_82 : decode prog_10_method_17_code 82 = .ok (.invokevirtual 157, 3) := dd_at dd_Pa_numeral 44 rfl
theorem d_Pa_numeral_85 : decode prog_10_method_17_code 85 = .ok (.invokestatic 160, 3) := dd_at dd_Pa_numeral 45 rfl
theorem d_Pa_numeral_88 : decode prog_10_method_17_code 88 = .ok (.ifCond .ne (5), 3) := dd_at dd_Pa_numeral 46 rfl
theorem d_Pa_numeral_91 : decode prog_10_method_17_code 91 = .ok (.iconst 0, 1) := dd_at dd_Pa_numeral 47 rfl
theorem d_Pa_numeral_92 : decode prog_10_method_17_code 92 = .ok (.ireturn, 1) := dd_at dd_Pa_numeral 48 rfl
theorem d_Pa_numeral_93 : decode prog_10_method_17_code 93 = .ok (.iconst 0, 1) := dd_at dd_Pa_numeral 49 rfl
theorem d_Pa_numeral_94 : decode prog_10_method_17_code 94 = .ok (.istore_n 2, 1) := dd_at dd_Pa_numeral 50 rfl
theorem d_Pa_numeral_95 : decode prog_10_method_17_code 95 = .ok (.iload_n 2, 1) := dd_at dd_Pa_numeral 51 rfl
theorem d_Pa_numeral_96 : decode prog_10_method_17_code 96 = .ok (.iconst 3, 1) := dd_at dd_Pa_numeral 52 rfl
theorem d_Pa_numeral_97 : decode prog_10_method_17_code 97 = .ok (.if_icmp .ge (74), 3) := dd_at dd_Pa_numeral 53 rfl
theorem d_Pa_numeral_100 : decode prog_10_method_17_code 100 = .ok (.iload_n 1, 1) := dd_at dd_Pa_numeral 54 rfl
theorem d_Pa_numeral_101 : decode prog_10_method_17_code 101 = .ok (.ifCond .eq (17), 3) := dd_at dd_Pa_numeral 55 rfl
theorem d_Pa_numeral_104 : decode prog_10_method_17_code 104 = .ok (.aload_n 0, 1) := dd_at dd_Pa_numeral 56 rfl
theorem d_Pa_numeral_105 : decode prog_10_method_17_code 105 = .ok (.invokevirtual 157, 3) := dd_at dd_Pa_numeral 57 rfl
theorem d_Pa_numeral_108 : decode prog_10_method_17_code 108 = .ok (.invokestatic 160, 3) := dd_at dd_Pa_numeral 58 rfl
theorem d_Pa_numeral_111 : decode prog_10_method_17_code 111 = .ok (.ifCond .eq (7), 3) := dd_at dd_Pa_numeral 59 rfl
theorem d_Pa_numeral_114 : decode prog_10_method_17_code 114 = .ok (.iconst 1, 1) := dd_at dd_Pa_numeral 60 rfl
theorem d_Pa_numeral_115 : decode prog_10_method_17_code 115 = .ok (.goto (4), 3) := dd_at dd_Pa_numeral 61 rfl
theorem d_Pa_numeral_118 : decode prog_10_method_17_code 118 = .ok (.iconst 0, 1) := dd_at dd_Pa_numeral 62 rfl
theorem d_Pa_numeral_119 : decode prog_10_method_17_code 119 = .ok (.istore_n 3, 1) := dd_at dd_Pa_numeral 63 rfl
theorem d_Pa_numeral_120 : decode prog_10_method_17_code 120 = .ok (.aload_n 0, 1) := dd_at dd_Pa_numeral 64 rfl
theorem d_Pa_numeral_121 : decode prog_10_method_17_code 121 = .ok (.aload_n 0, 1) := dd_at dd_Pa_numeral 65 rfl
theorem d_Pa_numeral_122 : decode prog_10_method_17_code 122 = .ok (.getfield 40, 3) := dd_at dd_Pa_numeral 66 rfl
theorem d_Pa_numeral_125 : decode prog_10_method_17_code 125 = .ok (.bipush (10), 2) := dd_at dd_Pa_numeral 67 rfl
theorem d_Pa_numeral_127 : decode prog_10_method_17_code 127 = .ok (.imul, 1) := dd_at dd_Pa_numeral 68 rfl
theorem d_Pa_numeral_128 : decode prog_10_method_17_code 128 = .ok (.iload_n 3, 1) := dd_at dd_Pa_numeral 69 rfl
theorem d_Pa_numeral_129 : decode prog_10_method_17_code 129 = .ok (.ifCond .eq (13), 3) := dd_at dd_Pa_numeral 70 rfl
theorem d_Pa_numeral_132 : decode prog_10_method_17_code 132 = .ok (.aload_n 0, 1) := dd_at dd_Pa_numeral 71 rfl
theorem d_Pa_numeral_133 : decode prog_10_method_17_code 133 = .ok (.invokevirtual 157, 3) := dd_at dd_Pa_numeral 72 rfl
theorem d_Pa_numeral_136 : decode prog_10_method_17_code 136 = .ok (.bipush (48), 2) := dd_at dd_Pa_numeral 73 rfl
theorem d_Pa_numeral_138 : decode prog_10_method_17_code 138 = .ok (.isub, 1) := dd_at dd_Pa_numeral 74 rfl
theorem d_Pa_numeral_139 : decode prog_10_method_17_code 139 = .ok (.goto (4), 3) := dd_at dd_Pa_numeral 75 rfl
theorem d_Pa_numeral_142 : decode prog_10_method_17_code 142 = .ok (.iconst 0, 1) := dd_at dd_Pa_numeral 76 rfl
theorem d_Pa_numeral_143 : decode prog_10_method_17_code 143 = .ok (.iadd, 1) := dd_at dd_Pa_numeral 77 rfl
theorem d_Pa_numeral_144 : decode prog_10_method_17_code 144 = .ok (.putfield 40, 3) := dd_at dd_Pa_numeral 78 rfl
theorem d_Pa_numeral_147 : decode prog_10_method_17_code 147 = .ok (.aload_n 0, 1) := dd_at dd_Pa_numeral 79 rfl
theorem d_Pa_numeral_148 : decode prog_10_method_17_code 148 = .ok (.dup, 1) := dd_at dd_Pa_numeral 80 rfl
theorem d_Pa_numeral_149 : decode prog_10_method_17_code 149 = .ok (.getfield 26, 3) := dd_at dd_Pa_numeral 81 rfl
theorem d_Pa_numeral_152 : decode prog_10_method_17_code 152 = .ok (.iload_n 3, 1) := dd_at dd_Pa_numeral 82 rfl
theorem d_Pa_numeral_153 : decode prog_10_method_17_code 153 = .ok (.ifCond .eq (7), 3) := dd_at dd_Pa_numeral 83 rfl
theorem d_Pa_numeral_156 : decode prog_10_method_17_code 156 = .ok (.iconst 1, 1) := dd_at dd_Pa_numeral 84 rfl
theorem d_Pa_numeral_157 : decode prog_10_method_17_code 157 = .ok (.goto (4), 3) := dd_at dd_Pa_numeral 85 rfl
theorem d_Pa_numeral_160 : decode prog_10_method_17_code 160 = .ok (.iconst 0, 1) := dd_at dd_Pa_numeral 86 rfl
theorem d_Pa_numeral_161 : decode prog_10_method_17_code 161 = .ok (.iadd, 1) := dd_at dd_Pa_numeral 87 rfl
theorem d_Pa_numeral_162 : decode prog_10_method_17_code 162 = .ok (.putfield 26, 3) := dd_at dd_Pa_numeral 88 rfl
theorem d_Pa_numeral_165 : decode prog_10_method_17_code 165 = .ok (.iinc 2 (1), 3) := dd_at dd_Pa_numeral 89 rfl
theorem d_Pa_numeral_168 : decode prog_10_method_17_code 168 = .ok (.goto (-73), 3) := dd_at dd_Pa_numeral 90 rfl
theorem d_Pa_numeral_171 : decode prog_10_method_17_code 171 = .ok (.iconst 1, 1) := dd_at dd_Pa_numeral 91 rfl
theorem d_Pa_numeral_172 : decode prog_10_method_17_code 172 = .ok (.ireturn, 1) := dd_at dd_Pa_numeral 92 rfl
def ld_Pa_simple : List (Nat × Instr × Nat) := [(0, .aload_n 0, 1), (1, .invokevirtual 157, 3), (4, .invokestatic 174, 3), (7, .ifCond .ne (5), 3), (10, .iconst 0, 1), (11, .ireturn, 1), (12, .aload_n 0, 1), (13, .getfield 12, 3), (16, .aload_n 0, 1), (17, .invokevirtual 157, 3), (20, .bipush (65), 2), (22, .isub, 1), (23, .putfield 177, 3), (26, .aload_n 0, 1), (27, .dup, 1), (28, .getfield 26, 3), (31, .iconst 1, 1), (32, .iadd, 1), (33, .putfield 26, 3), (36, .iconst 1, 1), (37, .ireturn, 1)]
theorem dd_Pa_simple : (ld_Pa_simple).all (dOK prog_10_method_19_code) = true := by decide +kernel
theorem d_Pa_simple_0 : decode prog_10_method_19_code 0 = .ok (.aload_n 0, 1) := dd_at dd_Pa_simple 0 rfl
theorem d_Pa_simple_1 : decode prog_10_method_19_code 1 = .ok (.invokevirtual 157, 3) := dd_at dd_Pa_simple 1 rfl
theorem d_Pa_simple_4 : decode prog_10_method_19_code 4 = .ok (.invokestatic 174, 3) := dd_at dd_Pa_simple 2 rfl
theorem d_Pa_simple_7 : decode prog_10_method_19_code 7 = .ok (.ifCond .ne (5), 3) := dd_at dd_Pa_simple 3 rfl
theorem d_Pa_simple_10 : decode prog_10_method_19_code 10 = .ok (.iconst 0, 1) := dd_at dd_Pa_simple 4 rfl
theorem d_Pa_simple_11 : decode prog_10_method_19_code 11 = .ok (.ireturn, 1) := dd_at dd_Pa_simple 5 rfl
theorem d_Pa_simple_12 : decode prog_10_method_19_code 12 = .ok (.aload_n 0, 1) := dd_at dd_Pa_simple 6 rfl
theorem d_Pa_simple_13 : decode prog_10_method_19_code 13 = .ok (.getfield 12, 3) := dd_at dd_Pa_simple 7 rfl
theorem d_Pa_simple_16 : decode prog_10_method_19_code 16 = .ok (.aload_n 0, 1) := dd_at dd_Pa_simple 8 rfl
theorem d_Pa_simple_17 : decode prog_10_method_19_code 17 = .ok (.invokevirtual 157, 3) := dd_at dd_Pa_simple 9 rfl
theorem d_Pa_simple_20 : decode prog_10_method_19_code 20 = .ok (.bipush (65), 2) := dd_at dd_Pa_simple 10 rfl
theorem d_Pa_simple_22 : decode prog_10_method_19_code 22 = .ok (.isub, 1) := dd_at dd_Pa_simple 11 rfl
theorem d_Pa_simple_23 : decode prog_10_method_19_code 23 = .ok (.putfield 177, 3) := dd_at dd_Pa_simple 12 rfl
theorem d_Pa_simple_26 : decode prog_10_method_19_code 26 = .ok (.aload_n 0, 1) := dd_at dd_Pa_simple 13 rfl
theorem d_Pa_simple_27 : decode prog_10_method_19_code 27 = .ok (.dup, 1) := dd_at dd_Pa_simple 14 rfl
theorem d_Pa_simple_28 : decode prog_10_method_19_code 28 = .ok (.getfield 26, 3) := dd_at dd_Pa_simple 15 rfl
theorem d_Pa_simple_31 : decode prog_10_method_19_code 31 = .ok (.iconst 1, 1) := dd_at dd_Pa_simple 16 rfl
theorem d_Pa_simple_32 : decode prog_10_method_19_code 32 = .ok (.iadd, 1) := dd_at dd_Pa_simple 17 rfl
theorem d_Pa_simple_33 : decode prog_10_method_19_code 33 = .ok (.putfield 26, 3) := dd_at dd_Pa_simple 18 rfl
theorem d_Pa_simple_36 : decode prog_10_method_19_code 36 = .ok (.iconst 1, 1) := dd_at dd_Pa_simple 19 rfl
theorem d_Pa_simple_37 : decode prog_10_method_19_code 37 = .ok (.ireturn, 1) := dd_at dd_Pa_simple 20 rfl
def ld_Pa_matrix : List (Nat × Instr × Nat) := [(0, .aload_n 0, 1), (1, .invokevirtual 157, 3), (4, .invokestatic 180, 3), (7, .ifCond .ne (5), 3), (10, .iconst 0, 1), (11, .ireturn, 1), (12, .aload_n 0, 1), (13, .getfield 12, 3), (16, .aload_n 0, 1), (17, .invokevirtual 157, 3), (20, .bipush (80), 2), (22, .isub, 1), (23, .putfield 177, 3), (26, .aload_n 0, 1), (27, .dup, 1), (28, .getfield 26, 3), (31, .iconst 1, 1), (32, .iadd, 1), (33, .putfield 26, 3), (36, .iconst 1, 1), (37, .ireturn, 1)]
theorem dd_Pa_matrix : (ld_Pa_matrix).all (dOK prog_10_method_20_code) = true := by decide +kernel
theorem d_Pa_matrix_0 : decode prog_10_method_20_code 0 = .ok (.aload_n 0, 1) := dd_at dd_Pa_matrix 0 rfl
theorem d_Pa_matrix_1 : decode prog_10_method_20_code 1 = .ok (.invokevirtual 157, 3) := dd_at dd_Pa_matrix 1 rfl
theorem d_Pa_matrix_4 : decode prog_10_method_20_code 4 = .ok (.invokestatic 180, 3) := dd_at dd_Pa_matrix 2 rfl
theorem d_Pa_matrix_7 : decode prog_10_method_20_code 7 = .ok (.ifCond .ne (5), 3) := dd_at dd_Pa_matrix 3 rfl
theorem d_Pa_matrix_10 : decode prog_10_method_20_code 10 = .ok (.iconst 0, 1) := dd_at dd_Pa_matrix 4 rfl
theorem d_Pa_matrix_11 : decode prog_10_method_20_code 11 = .ok (.ireturn, 1) := dd_at dd_Pa_matrix 5 rfl
theorem d_Pa_matrix_12 : decode prog_10_method_20_code 12 = .ok (.aload_n 0, 1) := dd_at dd_Pa_matrix 6 rfl
theorem d_Pa_matrix_13 : decode prog_10_method_20_code 13 = .ok (.getfield 12, 3) := dd_at dd_Pa_matrix 7 rfl
theorem d_Pa_matrix_16 : decode prog_10_method_20_code 16 = .ok (.aload_n 0, 1) := dd_at dd_Pa_matrix 8 rfl
theorem d_Pa_matrix_17 : decode prog_10_method_20_code 17 = .ok (.invokevirtual 157, 3) := dd_at dd_Pa_matrix 9 rfl
theorem d_Pa_matrix_20 : decode prog_10_method_20_code 20 = .ok (.bipush (80), 2) := dd_at dd_Pa_matrix 10 rfl
theorem d_Pa_matrix_22 : decode prog_10_method_20_code 22 = .ok (.isub, 1) := dd_at dd_Pa_matrix 11 rfl
theorem d_Pa_matrix_23 : decode prog_10_method_20_code 23 = .ok (.putfield 177, 3) := dd_at dd_Pa_matrix 12 rfl
theorem d_Pa_matrix_26 : decode prog_10_method_20_code 26 = .ok (.aload_n 0, 1) := dd_at dd_Pa_matrix 13 rfl
theorem d_Pa_matrix_27 : decode prog_10_method_20_code 27 = .ok (.dup, 1) := dd_at dd_Pa_matrix 14 rfl
theorem d_Pa_matrix_28 : decode prog_10_method_20_code 28 = .ok (.getfield 26, 3) := dd_at dd_Pa_matrix 15 rfl
theorem d_Pa_matrix_31 : decode prog_10_method_20_code 31 = .ok (.iconst 1, 1) := dd_at dd_Pa_matrix 16 rfl
theorem d_Pa_matrix_32 : decode prog_10_method_20_code 32 = .ok (.iadd, 1) := dd_at dd_Pa_matrix 17 rfl
theorem d_Pa_matrix_33 : decode prog_10_method_20_code 33 = .ok (.putfield 26, 3) := dd_at dd_Pa_matrix 18 rfl
theorem d_Pa_matrix_36 : decode prog_10_method_20_code 36 = .ok (.iconst 1, 1) := dd_at dd_Pa_matrix 19 rfl
theorem d_Pa_matrix_37 : decode prog_10_method_20_code 37 = .ok (.ireturn, 1) := dd_at dd_Pa_matrix 20 rfl
def ld_Pa_function : List (Nat × Instr × Nat) := [(0, .aload_n 0, 1), (1, .invokevirtual 157, 3), (4, .invokestatic 183, 3), (7, .ifCond .ne (5), 3), (10, .iconst 0, 1), (11, .ireturn, 1), (12, .aload_n 0, 1), (13, .getfield 12, 3), (16, .aload_n 0, 1), (17, .invokevirtual 157, 3), (20, .bipush (65), 2), (22, .isub, 1), (23, .putfield 186, 3), (26, .aload_n 0, 1), (27, .dup, 1), (28, .getfield 26, 3), (31, .iconst 1, 1), (32, .iadd, 1), (33, .putfield 26, 3), (36, .iconst 1, 1), (37, .ireturn, 1)]
theorem dd_Pa_function : (ld_Pa_function).all (dOK prog_10_method_21_code) = true := by decide +kernel
theorem d_Pa_function_0 : decode prog_10_method_21_code 0 = .ok (.aload_n 0, 1) := dd_at dd_Pa_function 0 rfl
theorem d_Pa_function_1 : decode prog_10_method_21_code 1 = .ok (.invokevirtual 157, 3) := dd_at dd_Pa_function 1 rfl
theorem d_Pa_function_4 : decode prog_10_method_21_code 4 = .ok (.invokestatic 183, 3) := dd_at dd_Pa_function 2 rfl
theorem d_Pa_function_7 : decode prog_10_method_21_code 7 = .ok (.ifCond .ne (5), 3) := dd_at dd_Pa_function 3 rfl
theorem d_Pa_function_10 : decode prog_10_method_21_code 10 = .ok (.iconst 0, 1) := dd_at dd_Pa_function 4 rfl
theorem d_Pa_function_11 : decode prog_10_method_21_code 11 = .ok (.ireturn, 1) := dd_at dd_Pa_function 5 rfl
theorem d_Pa_function_12 : decode prog_10_method_21_code 12 = .ok (.aload_n 0, 1) := dd_at dd_Pa_function 6 rfl
theorem d_Pa_function_13 : decode prog_10_method_21_code 13 = .ok (.getfield 12, 3) := dd_at dd_Pa_function 7 rfl
theorem d_Pa_function_16 : decode prog_10_method_21_code 16 = .ok (.aload_n 0, 1) := dd_at dd_Pa_function 8 rfl
theorem d_Pa_function_17 : decode prog_10_method_21_code 17 = .ok (.invokevirtual 157, 3) := dd_at dd_Pa_function 9 rfl
theorem d_Pa_function_20 : decode prog_10_method_21_code 20 = .ok (.bipush (65), 2) := dd_at dd_Pa_function 10 rfl
theorem d_Pa_function_22 : decode prog_10_method_21_code 22 = .ok (.isub, 1) := dd_at dd_Pa_function 11 rfl
theorem d_Pa_function_23 : decode prog_10_method_21_code 23 = .ok (.putfield 186, 3) := dd_at dd_Pa_function 12 rfl
theorem d_Pa_function_26 : decode prog_10_method_21_code 26 = .ok (.aload_n 0, 1) := dd_at dd_Pa_function 13 rfl
theorem d_Pa_function_27 : decode prog_10_method_21_code 27 = .ok (.dup, 1) := dd_at dd_Pa_function 14 rfl
theorem d_Pa_function_28 : decode prog_10_method_21_code 28 = .ok (.getfield 26, 3) := dd_at dd_Pa_function 15 rfl
theorem d_Pa_function_31 : decode prog_10_method_21_code 31 = .ok (.iconst 1, 1) := dd_at dd_Pa_function 16 rfl
theorem d_Pa_function_32 : decode prog_10_method_21_code 32 = .ok (.iadd, 1) := dd_at dd_Pa_function 17 rfl
theorem d_Pa_function_33 : decode prog_10_method_21_code 33 = .ok (.putfield 26, 3) := dd_at dd_Pa_function 18 rfl
theorem d_Pa_function_36 : decode prog_10_method_21_code 36 = .ok (.iconst 1, 1) := dd_at dd_Pa_function 19 rfl
theorem d_Pa_function_37 : decode prog_10_method_21_code 37 = .ok (.ireturn, 1) := dd_at dd_Pa_function 20 rfl
def ld_Pa_operand : List (Nat × Instr × Nat) := [(0, .aload_n 0, 1), (1, .invokevirtual 157, 3), (4, .invokestatic 180, 3), (7, .ifCond .ne (5), 3), (10, .iconst 0, 1), (11, .ireturn, 1), (12, .aload_n 0, 1), (13, .getfield 12, 3), (16, .aload_n 0, 1), (17, .invokevirtual 157, 3), (20, .bipush (80), 2), (22, .isub, 1), (23, .invokevirtual 164, 3), (26, .aload_n 0, 1), (27, .dup, 1), (28, .getfield 26, 3), (31, .iconst 1, 1), (32, .iadd, 1), (33, .putfield 26, 3), (36, .iconst 1, 1), (37, .ireturn, 1)]
theorem dd_Pa_operand : (ld_Pa_operand).all (dOK prog_10_method_27_code) = true := by decide +kernel
theorem d_Pa_operand_0 : decode prog_10_method_27_code 0 = .ok (.aload_n 0, 1) := dd_at dd_Pa_operand 0 rfl
theorem d_Pa_operand_1 : decode prog_10_method_27_code 1 = .ok (.invokevirtual 157, 3) := dd_at dd_Pa_operand 1 rfl
theorem d_Pa_operand_4 : decode prog_10_method_27_code 4 = .ok (.invokestatic 180, 3) := dd_at dd_Pa_operand 2 rfl
theorem d_Pa_operand_7 : decode prog_10_method_27_code 7 = .ok (.ifCond .ne (5), 3) := dd_at dd_Pa_operand 3 rfl
theorem d_Pa_operand_10 : decode prog_10_method_27_code 10 = .ok (.iconst 0, 1) := dd_at dd_Pa_operand 4 rfl
theorem d_Pa_operand_11 : decode prog_10_method_27_code 11 = .ok (.ireturn, 1) := dd_at dd_Pa_operand 5 rfl
theorem d_Pa_operand_12 : decode prog_10_method_27_code 12 = .ok (.aload_n 0, 1) := dd_at dd_Pa_operand 6 rfl
theorem d_Pa_operand_13 : decode prog_10_method_27_code 13 = .ok (.getfield 12, 3) := dd_at dd_Pa_operand 7 rfl
theorem d_Pa_operand_16 : decode prog_10_method_27_code 16 = .ok (.aload_n 0, 1) := dd_at dd_Pa_operand 8 rfl
theorem d_Pa_operand_17 : decode prog_10_method_27_code 17 = .ok (.invokevirtual 157, 3) := dd_at dd_Pa_operand 9 rfl
theorem d_Pa_operand_20 : decode prog_10_method_27_code 20 = .ok (.bipush (80), 2) := dd_at dd_Pa_operand 10 rfl
theorem d_Pa_operand_22 : decode prog_10_method_27_code 22 = .ok (.isub, 1) := dd_at dd_Pa_operand 11 rfl
theorem d_Pa_operand_23 : decode prog_10_method_27_code 23 = .ok (.invokevirtual 164, 3) := dd_at dd_Pa_operand 12 rfl
theorem d_Pa_operand_26 : decode prog_10_method_27_code 26 = .ok (.aload_n 0, 1) := dd_at dd_Pa_operand 13 rfl
theorem d_Pa_operand_27 : decode prog_10_method_27_code 27 = .ok (.dup, 1) := dd_at dd_Pa_operand 14 rfl
theorem d_Pa_operand_28 : decode prog_10_method_27_code 28 = .ok (.getfield 26, 3) := dd_at dd_Pa_operand 15 rfl
theorem d_Pa_operand_31 : decode prog_10_method_27_code 31 = .ok (.iconst 1, 1) := dd_at dd_Pa_operand 16 rfl
theorem d_Pa_operand_32 : decode prog_10_method_27_code 32 = .ok (.iadd, 1) := dd_at dd_Pa_operand 17 rfl
theorem d_Pa_operand_33 : decode prog_10_method_27_code 33 = .ok (.putfield 26, 3) := dd_at dd_Pa_operand 18 rfl
theorem d_Pa_operand_36 : decode prog_10_method_27_code 36 = .ok (.iconst 1, 1) := dd_at dd_Pa_operand 19 rfl
theorem d_Pa_operand_37 : decode prog_10_method_27_code 37 = .ok (.ireturn, 1) := dd_at dd_Pa_operand 20 rfl
def ld_Pa_secondOperand : List (Nat × Instr × Nat) := [(0, .aload_n 0, 1), (1, .invokevirtual 157, 3), (4, .tableswitch (71) (42) (45) #[(58), (32), (71), (45)], 32), (36, .aload_n 0, 1), (37, .getfield 12, 3), (40, .getstatic 241, 3), (43, .putfield 239, 3), (46, .goto (31), 3), (49, .aload_n 0, 1), (50, .getfield 12, 3), (53, .getstatic 244, 3), (56, .putfield 239, 3), (59, .goto (18), 3), (62, .aload_n 0, 1), (63, .getfield 12, 3), (66, .getstatic 247, 3), (69, .putfield 239, 3), (72, .goto (5), 3), (75, .iconst 1, 1), (76, .ireturn, 1), (77, .aload_n 0, 1), (78, .dup, 1), (79, .getfield 26, 3), (82, .iconst 1, 1), (83, .iadd, 1), (84, .putfield 26, 3), (87, .aload_n 0, 1), (88, .invokevirtual 225, 3), (91, .ireturn, 1)]
theorem dd_Pa_secondOperand : (ld_Pa_secondOperand).all (dOK prog_10_method_28_code) = true := by decide +kernel
theorem d_Pa_secondOperand_0 : decode prog_10_method_28_code 0 = .ok (.aload_n 0, 1) := dd_at dd_Pa_secondOperand 0 rfl
theorem d_Pa_secondOperand_1 : decode prog_10_method_28_code 1 = .ok (.invokevirtual 157, 3) := dd_at dd_Pa_secondOperand 1 rfl
theorem d_Pa_secondOperand_4 : decode prog_10_method_28_code 4 = .ok (.tableswitch (71) (42) (45) #[(58), (32), (71), (45)], 32) := dd_at dd_Pa_secondOperand 2 rfl
theorem d_Pa_secondOperand_36 : decode prog_10_method_28_code 36 = .ok (.aload_n 0, 1) := dd_at dd_Pa_secondOperand 3 rfl
theorem d_Pa_secondOperand_37 : decode prog_10_method_28_code 37 = .ok (.getfield 12, 3) := dd_at dd_Pa_secondOperand 4 rfl
theorem d_Pa_secondOperand_40 : decode prog_10_method_28_code 40 = .ok (.getstatic 241, 3) := dd_at dd_Pa_secondOperand 5 rfl
theorem d_Pa_secondOperand_43 : decode prog_10_method_28_code 43 = .ok (.putfield 239, 3) := dd_at dd_Pa_secondOperand 6 rfl
theorem d_Pa_secondOperand_46 : decode prog_10_method_28_code 46 = .ok (.goto (31), 3) := dd_at dd_Pa_secondOperand 7 rfl
theorem d_Pa_secondOperand_49 : decode prog_10_method_28_code 49 = .ok (.aload_n 0, 1) := dd_at dd_Pa_secondOperand 8 rfl
theorem d_Pa_secondOperand_50 : decode prog_10_method_28_code 50 = .ok (.getfield 12, 3) := dd_at dd_Pa_secondOperand 9 rfl
theorem d_Pa_secondOperand_53 : decode prog_10_method_28_code 53 = .ok (.getstatic 244, 3) := dd_at dd_Pa_secondOperand 10 rfl
theorem d_Pa_secondOperand_56 : decode prog_10_method_28_code 56 = .ok (.putfield 239, 3) := dd_at dd_Pa_secondOperand 11 rfl
theorem d_Pa_secondOperand_59 : decode prog_10_method_28_code 59 = .ok (.goto (18), 3) := dd_at dd_Pa_secondOperand 12 rfl
theorem d_Pa_secondOperand_62 : decode prog_10_method_28_code 62 = .ok (.aload_n 0, 1) := dd_at dd_Pa_secondOperand 13 rfl
theorem d_Pa_secondOperand_63 : decode prog_10_method_28_code 63 = .ok (.getfield 12, 3) := dd_at dd_Pa_secondOperand 14 rfl
theorem d_Pa_secondOperand_66 : decode prog_10_method_28_code 66 = .ok (.getstatic 247, 3) := dd_at dd_Pa_secondOperand 15 rfl
theorem d_Pa_secondOperand_69 : decode prog_10_method_28_code 69 = .ok (.putfield 239, 3) := dd_at dd_Pa_secondOperand 16 rfl
theorem d_Pa_secondOperand_72 : decode prog_10_method_28_code 72 = .ok (.goto (5), 3) := dd_at dd_Pa_secondOperand 17 rfl
theorem d_Pa_secondOperand_75 : decode prog_10_method_28_code 75 = .ok (.iconst 1, 1) := dd_at dd_Pa_secondOperand 18 rfl
theorem d_Pa_secondOperand_76 : decode prog_10_method_28_code 76 = .ok (.ireturn, 1) := dd_at dd_Pa_secondOperand 19 rfl
theorem d_Pa_secondOperand_77 : decode prog_10_method_28_code 77 = .ok (.aload_n 0, 1) := dd_at dd_Pa_secondOperand 20 rfl
theorem d_Pa_secondOperand_78 : decode prog_10_method_28_code 78 = .ok (.dup, 1) := dd_at dd_Pa_secondOperand 21 rfl
theorem d_Pa_secondOperand_79 : decode prog_10_method_28_code 79 = .ok (.getfield 26, 3) := dd_at dd_Pa_secondOperand 22 rfl
theorem d_Pa_secondOperand_82 : decode prog_10_method_28_code 82 = .ok (.iconst 1, 1) := dd_at dd_Pa_secondOperand 23 rfl
theorem d_Pa_secondOperand_83 : decode prog_10_method_28_code 83 = .ok (.iadd, 1) := dd_at dd_Pa_secondOperand 24 rfl
theorem d_Pa_secondOperand_84 : decode prog_10_method_28_code 84 = .ok (.putfield 26, 3) := dd_at dd_Pa_secondOperand 25 rfl
theorem d_Pa_secondOperand_87 : decode prog_10_method_28_code 87 = .ok (.aload_n 0, 1) := dd_at dd_Pa_secondOperand 26 rfl
theorem d_Pa_secondOperand_88 : decode prog_10_method_28_code 88 = .ok (.invokevirtual 225, 3) := dd_at dd_Pa_secondOperand 27 rfl
theorem d_Pa_secondOperand_91 : decode prog_10_method_28_code 91 = .ok (.ireturn, 1) := dd_at dd_Pa_secondOperand 28 rfl
def ld_Pa_matrixElement : List (Nat × Instr × Nat) := [(0, .aload_n 0, 1), (1, .getfield 30, 3), (4, .bipush (6), 2), (6, .if_icmp .lt (5), 3), (9, .iconst 0, 1), (10, .ireturn, 1), (11, .aload_n 0, 1), (12, .dup, 1), (13, .getfield 26, 3), (16, .iconst 1, 1), (17, .iadd, 1), (18, .putfield 26, 3), (21, .aload_n 0, 1), (22, .invokevirtual 191, 3), (25, .ifCond .eq (46), 3), (28, .aload_n 0, 1), (29, .invokevirtual 250, 3), (32, .ifCond .eq (39), 3), (35, .aload_n 0, 1), (36, .bipush (44), 2), (38, .invokevirtual 68, 3), (41, .ifCond .eq (30), 3), (44, .aload_n 0, 1), (45, .invokevirtual 250, 3), (48, .ifCond .eq (23), 3), (51, .aload_n 0, 1), (52, .invokevirtual 194, 3), (55, .ifCond .eq (16), 3), (58, .aload_n 0, 1), (59, .iconst 2, 1), (60, .iload_n 1, 1), (61, .invokevirtual 259, 3), (64, .ifCond .eq (7), 3), (67, .iconst 1, 1), (68, .goto (4), 3), (71, .iconst 0, 1), (72, .ireturn, 1)]
theorem dd_Pa_matrixElement : (ld_Pa_matrixElement).all (dOK prog_10_method_38_code) = true := by decide +kernel
theorem d_Pa_matrixElement_0 : decode prog_10_method_38_code 0 = .ok (.aload_n 0, 1) := dd_at dd_Pa_matrixElement 0 rfl
theorem d_Pa_matrixElement_1 : decode prog_10_method_38_code 1 = .ok (.getfield 30, 3) := dd_at dd_Pa_matrixElement 1 rfl
theorem d_Pa_matrixElement_4 : decode prog_10_method_38_code 4 = .ok (.bipush (6), 2) := dd_at dd_Pa_matrixElement 2 rfl
theorem d_Pa_matrixElement_6 : decode prog_10_method_38_code 6 = .ok (.if_icmp .lt (5), 3) := dd_at dd_Pa_matrixElement 3 rfl
theorem d_Pa_matrixElement_9 : decode prog_10_method_38_code 9 = .ok (.iconst 0, 1) := dd_at dd_Pa_matrixElement 4 rfl
theorem d_Pa_matrixElement_10 : decode prog_10_method_38_code 10 = .ok (.ireturn, 1) := dd_at dd_Pa_matrixElement 5 rfl
theorem d_Pa_matrixElement_11 : decode prog_10_method_38_code 11 = .ok (.aload_n 0, 1) := dd_at dd_Pa_matrixElement 6 rfl
theorem d_Pa_matrixElement_12 : decode prog_10_method_38_code 12 = .ok (.dup, 1) := dd_at dd_Pa_matrixElement 7 rfl
theorem d_Pa_matrixElement_13 : decode prog_10_method_38_code 13 = .ok (.getfield 26, 3) := dd_at dd_Pa_matrixElement 8 rfl
theorem d_Pa_matrixElement_16 : decode prog_10_method_38_code 16 = .ok (.iconst 1, 1) := dd_at dd_Pa_matrixElement 9 rfl
theorem d_Pa_matrixElement_17 : decode prog_10_method_38_code 17 = .ok (.iadd, 1) := dd_at dd_Pa_matrixElement 10 rfl
theorem d_Pa_matrixElement_18 : decode prog_10_method_38_code 18 = .ok (.putfield 26, 3) := dd_at dd_Pa_matrixElement 11 rfl
theorem d_Pa_matrixElement_21 : decode prog_10_method_38_code 21 = .ok (.aload_n 0, 1) := dd_at dd_Pa_matrixElement 12 rfl
theorem d_Pa_matrixElement_22 : decode prog_10_method_38_code 22 = .ok (.invokevirtual 191, 3) := dd_at dd_Pa_matrixElement 13 rfl
theorem d_Pa_matrixElement_25 : decode prog_10_method_38_code 25 = .ok (.ifCond .eq (46), 3) := dd_at dd_Pa_matrixElement 14 rfl
theorem d_Pa_matrixElement_28 : decode prog_10_method_38_code 28 = .ok (.aload_n 0, 1) := dd_at dd_Pa_matrixElement 15 rfl
theorem d_Pa_matrixElement_29 : decode prog_10_method_38_code 29 = .ok (.invokevirtual 250, 3) := dd_at dd_Pa_matrixElement 16 rfl
theorem d_Pa_matrixElement_32 : decode prog_10_method_38_code 32 = .ok (.ifCond .eq (39), 3) := dd_at dd_Pa_matrixElement 17 rfl
theorem d_Pa_matrixElement_35 : decode prog_10_method_38_code 35 = .ok (.aload_n 0, 1) := dd_at dd_Pa_matrixElement 18 rfl
theorem d_Pa_matrixElement_36 : decode prog_10_method_38_code 36 = .ok (.bipush (44), 2) := dd_at dd_Pa_matrixElement 19 rfl
theorem d_Pa_matrixElement_38 : decode prog_10_method_38_code 38 = .ok (.invokevirtual 68, 3) := dd_at dd_Pa_matrixElement 20 rfl
theorem d_Pa_matrixElement_41 : decode prog_10_method_38_code 41 = .ok (.ifCond .eq (30), 3) := dd_at dd_Pa_matrixElement 21 rfl
theorem d_Pa_matrixElement_44 : decode prog_10_method_38_code 44 = .ok (.aload_n 0, 1) := dd_at dd_Pa_matrixElement 22 rfl
theorem d_Pa_matrixElement_45 : decode prog_10_method_38_code 45 = .ok (.invokevirtual 250, 3) := dd_at dd_Pa_matrixElement 23 rfl
theorem d_Pa_matrixElement_48 : decode prog_10_method_38_code 48 = .ok (.ifCond .eq (23), 3) := dd_at dd_Pa_matrixElement 24 rfl
theorem d_Pa_matrixElement_51 : decode prog_10_method_38_code 51 = .ok (.aload_n 0, 1) := dd_at dd_Pa_matrixElement 25 rfl
theorem d_Pa_matrixElement_52 : decode prog_10_method_38_code 52 = .ok (.invokevirtual 194, 3) := dd_at dd_Pa_matrixElement 26 rfl
theorem d_Pa_matrixElement_55 : decode prog_10_method_38_code 55 = .ok (.ifCond .eq (16), 3) := dd_at dd_Pa_matrixElement 27 rfl
theorem d_Pa_matrixElement_58 : decode prog_10_method_38_code 58 = .ok (.aload_n 0, 1) := dd_at dd_Pa_matrixElement 28 rfl
theorem d_Pa_matrixElement_59 : decode prog_10_method_38_code 59 = .ok (.iconst 2, 1) := dd_at dd_Pa_matrixElement 29 rfl
theorem d_Pa_matrixElement_60 : decode prog_10_method_38_code 60 = .ok (.iload_n 1, 1) := dd_at dd_Pa_matrixElement 30 rfl
theorem d_Pa_matrixElement_61 : decode prog_10_method_38_code 61 = .ok (.invokevirtual 259, 3) := dd_at dd_Pa_matrixElement 31 rfl
theorem d_Pa_matrixElement_64 : decode prog_10_method_38_code 64 = .ok (.ifCond .eq (7), 3) := dd_at dd_Pa_matrixElement 32 rfl
theorem d_Pa_matrixElement_67 : decode prog_10_method_38_code 67 = .ok (.iconst 1, 1) := dd_at dd_Pa_matrixElement 33 rfl
theorem d_Pa_matrixElement_68 : decode prog_10_method_38_code 68 = .ok (.goto (4), 3) := dd_at dd_Pa_matrixElement 34 rfl
theorem d_Pa_matrixElement_71 : decode prog_10_method_38_code 71 = .ok (.iconst 0, 1) := dd_at dd_Pa_matrixElement 35 rfl
theorem d_Pa_matrixElement_72 : decode prog_10_method_38_code 72 = .ok (.ireturn, 1) := dd_at dd_Pa_matrixElement 36 rfl
def ld_Pa_bracketed : List (Nat × Instr × Nat) := [(0, .aload_n 0, 1), (1, .invokevirtual 191, 3), (4, .ifCond .eq (21), 3), (7, .aload_n 0, 1), (8, .invokevirtual 250, 3), (11, .ifCond .eq (14), 3), (14, .aload_n 0, 1), (15, .invokevirtual 194, 3), (18, .ifCond .eq (7), 3), (21, .iconst 1, 1), (22, .goto (4), 3), (25, .iconst 0, 1), (26, .ireturn, 1)]
theorem dd_Pa_bracketed : (ld_Pa_bracketed).all (dOK prog_10_method_39_code) = true := by decide +kernel
theorem d_Pa_bracketed_0 : decode prog_10_method_39_code 0 = .ok (.aload_n 0, 1) := dd_at dd_Pa_bracketed 0 rfl
theorem d_Pa_bracketed_1 : decode prog_10_method_39_code 1 = .ok (.invokevirtual 191, 3) := dd_at dd_Pa_bracketed 1 rfl
theorem d_Pa_bracketed_4 : decode prog_10_method_39_code 4 = .ok (.ifCond .eq (21), 3) := dd_at dd_Pa_bracketed 2 rfl
theorem d_Pa_bracketed_7 : decode prog_10_method_39_code 7 = .ok (.aload_n 0, 1) := dd_at dd_Pa_bracketed 3 rfl
theorem d_Pa_bracketed_8 : decode prog_10_method_39_code 8 = .ok (.invokevirtual 250, 3) := dd_at dd_Pa_bracketed 4 rfl
theorem d_Pa_bracketed_11 : decode prog_10_method_39_code 11 = .ok (.ifCond .eq (14), 3) := dd_at dd_Pa_bracketed 5 rfl
theorem d_Pa_bracketed_14 : decode prog_10_method_39_code 14 = .ok (.aload_n 0, 1) := dd_at dd_Pa_bracketed 6 rfl
theorem d_Pa_bracketed_15 : decode prog_10_method_39_code 15 = .ok (.invokevirtual 194, 3) := dd_at dd_Pa_bracketed 7 rfl
theorem d_Pa_bracketed_18 : decode prog_10_method_39_code 18 = .ok (.ifCond .eq (7), 3) := dd_at dd_Pa_bracketed 8 rfl
theorem d_Pa_bracketed_21 : decode prog_10_method_39_code 21 = .ok (.iconst 1, 1) := dd_at dd_Pa_bracketed 9 rfl
theorem d_Pa_bracketed_22 : decode prog_10_method_39_code 22 = .ok (.goto (4), 3) := dd_at dd_Pa_bracketed 10 rfl
theorem d_Pa_bracketed_25 : decode prog_10_method_39_code 25 = .ok (.iconst 0, 1) := dd_at dd_Pa_bracketed 11 rfl
theorem d_Pa_bracketed_26 : decode prog_10_method_39_code 26 = .ok (.ireturn, 1) := dd_at dd_Pa_bracketed 12 rfl
def ld_Ma_begin : List (Nat × Instr × Nat) := [(0, .aload_n 0, 1), (1, .getfield 21, 3), (4, .invokevirtual 92, 3), (7, .aload_n 0, 1), (8, .getfield 28, 3), (11, .iconst 0, 1), (12, .putfield 95, 3), (15, .aload_n 0, 1), (16, .iconst 0, 1), (17, .putfield 98, 3), (20, .aload_n 0, 1), (21, .iconst 0, 1), (22, .putfield 101, 3), (25, .aload_n 0, 1), (26, .iconst 0, 1), (27, .putfield 57, 3), (30, .aload_n 0, 1), (31, .iconst (-1), 1), (32, .putfield 36, 3), (35, .aload_n 0, 1), (36, .iconst 0, 1), (37, .putfield 50, 3), (40, .aload_n 0, 1), (41, .iconst 0, 1), (42, .putfield 104, 3), (45, .aload_n 0, 1), (46, .iconst 0, 1), (47, .putfield 107, 3), (50, .iconst 0, 1), (51, .istore_n 1, 1), (52, .iload_n 1, 1), (53, .aload_n 0, 1), (54, .getfield 12, 3), (57, .getfield 110, 3), (60, .if_icmp .ge (21), 3), (63, .aload_n 0, 1), (64, .aload_n 0, 1), (65, .getfield 12, 3), (68, .iload_n 1, 1), (69, .invokevirtual 53, 3), (72, .invokevirtual 111, 3), (75, .iinc 1 (1), 3), (78, .goto (-26), 3), (81, .return_, 1)]
theorem dd_Ma_begin : (ld_Ma_begin).all (dOK prog_8_method_3_code) = true := by decide +kernel
theorem d_Ma_begin_0 : decode prog_8_method_3_code 0 = .ok (.aload_n 0, 1) := dd_at dd_Ma_begin 0 rfl
theorem d_Ma_begin_1 : decode prog_8_method_3_code 1 = .ok (.getfield 21, 3) := dd_at dd_Ma_begin 1 rfl
theorem d_Ma_begin_4 : decode prog_8_method_3_code 4 = .ok (.invokevirtual 92, 3) := dd_at dd_Ma_begin 2 rfl
theorem d_Ma_begin_7 : decode prog_8_method_3_code 7 = .ok (.aload_n 0, 1) := dd_at dd_Ma_begin 3 rfl
theorem d_Ma_begin_8 : decode prog_8_method_3_code 8 = .ok (.getfield 28, 3) := dd_at dd_Ma_begin 4 rfl
theorem d_Ma_begin_11 : decode prog_8_method_3_code 11 = .ok (.iconst 0, 1) := dd_at dd_Ma_begin 5 rfl
theorem d_Ma_begin_12 : decode prog_8_method_3_code 12 = .ok (.putfield 95, 3) := dd_at dd_Ma_begin 6 rfl
theorem d_Ma_begin_15 : decode prog_8_method_3_code 15 = .ok (.aload_n 0, 1) := dd_at dd_Ma_begin 7 rfl
theorem d_Ma_begin_16 : decode prog_8_method_3_code 16 = .ok (.iconst 0, 1) := dd_at dd_Ma_begin 8 rfl
theorem d_Ma_begin_17 : decode prog_8_method_3_code 17 = .ok (.putfield 98, 3) := dd_at dd_Ma_begin 9 rfl
theorem d_Ma_begin_20 : decode prog_8_method_3_code 20 = .ok (.aload_n 0, 1) := dd_at dd_Ma_begin 10 rfl
theorem d_Ma_begin_21 : decode prog_8_method_3_code 21 = .ok (.iconst 0, 1) := dd_at dd_Ma_begin 11 rfl
theorem d_Ma_begin_22 : decode prog_8_method_3_code 22 = .ok (.putfield 101, 3) := dd_at dd_Ma_begin 12 rfl
theorem d_Ma_begin_25 : decode prog_8_method_3_code 25 = .ok (.aload_n 0, 1) := dd_at dd_Ma_begin 13 rfl
theorem d_Ma_begin_26 : decode prog_8_method_3_code 26 = .ok (.iconst 0, 1) := dd_at dd_Ma_begin 14 rfl
theorem d_Ma_begin_27 : decode prog_8_method_3_code 27 = .ok (.putfield 57, 3) := dd_at dd_Ma_begin 15 rfl
theorem d_Ma_begin_30 : decode prog_8_method_3_code 30 = .ok (.aload_n 0, 1) := dd_at dd_Ma_begin 16 rfl
theorem d_Ma_begin_31 : decode prog_8_method_3_code 31 = .ok (.iconst (-1), 1) := dd_at dd_Ma_begin 17 rfl
theorem d_Ma_begin_32 : decode prog_8_method_3_code 32 = .ok (.putfield 36, 3) := dd_at dd_Ma_begin 18 rfl
theorem d_Ma_begin_35 : decode prog_8_method_3_code 35 = .ok (.aload_n 0, 1) := dd_at dd_Ma_begin 19 rfl
theorem d_Ma_begin_36 : decode prog_8_method_3_code 36 = .ok (.iconst 0, 1) := dd_at dd_Ma_begin 20 rfl
theorem d_Ma_begin_37 : decode prog_8_method_3_code 37 = .ok (.putfield 50, 3) := dd_at dd_Ma_begin 21 rfl
theorem d_Ma_begin_40 : decode prog_8_method_3_code 40 = .ok (.aload_n 0, 1) := dd_at dd_Ma_begin 22 rfl
theorem d_Ma_begin_41 : decode prog_8_method_3_code 41 = .ok (.iconst 0, 1) := dd_at dd_Ma_begin 23 rfl
theorem d_Ma_begin_42 : decode prog_8_method_3_code 42 = .ok (.putfield 104, 3) := dd_at dd_Ma_begin 24 rfl
theorem d_Ma_begin_45 : decode prog_8_method_3_code 45 = .ok (.aload_n 0, 1) := dd_at dd_Ma_begin 25 rfl
theorem d_Ma_begin_46 : decode prog_8_method_3_code 46 = .ok (.iconst 0, 1) := dd_at dd_Ma_begin 26 rfl
theorem d_Ma_begin_47 : decode prog_8_method_3_code 47 = .ok (.putfield 107, 3) := dd_at dd_Ma_begin 27 rfl
theorem d_Ma_begin_50 : decode prog_8_method_3_code 50 = .ok (.iconst 0, 1) := dd_at dd_Ma_begin 28 rfl
theorem d_Ma_begin_51 : decode prog_8_method_3_code 51 = .ok (.istore_n 1, 1) := dd_at dd_Ma_begin 29 rfl
theorem d_Ma_begin_52 : decode prog_8_method_3_code 52 = .ok (.iload_n 1, 1) := dd_at dd_Ma_begin 30 rfl
theorem d_Ma_begin_53 : decode prog_8_method_3_code 53 = .ok (.aload_n 0, 1) := dd_at dd_Ma_begin 31 rfl
theorem d_Ma_begin_54 : decode prog_8_method_3_code 54 = .ok (.getfield 12, 3) := dd_at dd_Ma_begin 32 rfl
theorem d_Ma_begin_57 : decode prog_8_method_3_code 57 = .ok (.getfield 110, 3) := dd_at dd_Ma_begin 33 rfl
theorem d_Ma_begin_60 : decode prog_8_method_3_code 60 = .ok (.if_icmp .ge (21), 3) := dd_at dd_Ma_begin 34 rfl
theorem d_Ma_begin_63 : decode prog_8_method_3_code 63 = .ok (.aload_n 0, 1) := dd_at dd_Ma_begin 35 rfl
theorem d_Ma_begin_64 : decode prog_8_method_3_code 64 = .ok (.aload_n 0, 1) := dd_at dd_Ma_begin 36 rfl
theorem d_Ma_begin_65 : decode prog_8_method_3_code 65 = .ok (.getfield 12, 3) := dd_at dd_Ma_begin 37 rfl
theorem d_Ma_begin_68 : decode prog_8_method_3_code 68 = .ok (.iload_n 1, 1) := dd_at dd_Ma_begin 38 rfl
theorem d_Ma_begin_69 : decode prog_8_method_3_code 69 = .ok (.invokevirtual 53, 3) := dd_at dd_Ma_begin 39 rfl
theorem d_Ma_begin_72 : decode prog_8_method_3_code 72 = .ok (.invokevirtual 111, 3) := dd_at dd_Ma_begin 40 rfl
theorem d_Ma_begin_75 : decode prog_8_method_3_code 75 = .ok (.iinc 1 (1), 3) := dd_at dd_Ma_begin 41 rfl
theorem d_Ma_begin_78 : decode prog_8_method_3_code 78 = .ok (.goto (-26), 3) := dd_at dd_Ma_begin 42 rfl
theorem d_Ma_begin_81 : decode prog_8_method_3_code 81 = .ok (.return_, 1) := dd_at dd_Ma_begin 43 rfl
def ld_Ma_read : List (Nat × Instr × Nat) := [(0, .aload_n 0, 1), (1, .getfield 107, 3), (4, .aload_n 0, 1), (5, .getfield 104, 3), (8, .if_icmp .ge (15), 3), (11, .aload_n 0, 1), (12, .getfield 107, 3), (15, .aload_n 0, 1), (16, .getfield 44, 3), (19, .arraylength, 1), (20, .if_icmp .lt (14), 3), (23, .aload_n 0, 1), (24, .getfield 21, 3), (27, .getstatic 220, 3), (30, .invokevirtual 82, 3), (33, .return_, 1), (34, .aload_n 0, 1), (35, .aload_n 1, 1), (36, .iload_n 2, 1), (37, .aload_n 0, 1), (38, .getfield 44, 3), (41, .aload_n 0, 1), (42, .getfield 107, 3), (45, .daload, 1), (46, .invokevirtual 216, 3), (49, .aload_n 0, 1), (50, .dup, 1), (51, .getfield 107, 3), (54, .aload_n 0, 1), (55, .getfield 21, 3), (58, .invokevirtual 72, 3), (61, .ifCond .eq (7), 3), (64, .iconst 1, 1), (65, .goto (4), 3), (68, .iconst 0, 1), (69, .iadd, 1), (70, .putfield 107, 3), (73, .return_, 1)]
theorem dd_Ma_read : (ld_Ma_read).all (dOK prog_8_method_8_code) = true := by decide +kernel
theorem d_Ma_read_0 : decode prog_8_method_8_code 0 = .ok (.aload_n 0, 1) := dd_at dd_Ma_read 0 rfl
theorem d_Ma_read_1 : decode prog_8_method_8_code 1 = .ok (.getfield 107, 3) := dd_at dd_Ma_read 1 rfl
theorem d_Ma_read_4 : decode prog_8_method_8_code 4 = .ok (.aload_n 0, 1) := dd_at dd_Ma_read 2 rfl
theorem d_Ma_read_5 : decode prog_8_method_8_code 5 = .ok (.getfield 104, 3) := dd_at dd_Ma_read 3 rfl
theorem d_Ma_read_8 : decode prog_8_method_8_code 8 = .ok (.if_icmp .ge (15), 3) := dd_at dd_Ma_read 4 rfl
theorem d_Ma_read_11 : decode prog_8_method_8_code 11 = .ok (.aload_n 0, 1) := dd_at dd_Ma_read 5 rfl
theorem d_Ma_read_12 : decode prog_8_method_8_code 12 = .ok (.getfield 107, 3) := dd_at dd_Ma_read 6 rfl
theorem d_Ma_read_15 : decode prog_8_method_8_code 15 = .ok (.aload_n 0, 1) := dd_at dd_Ma_read 7 rfl
theorem d_Ma_read_16 : decode prog_8_method_8_code 16 = .ok (.getfield 44, 3) := dd_at dd_Ma_read 8 rfl
theorem d_Ma_read_19 : decode prog_8_method_8_code 19 = .ok (.arraylength, 1) := dd_at dd_Ma_read 9 rfl
theorem d_Ma_read_20 : decode prog_8_method_8_code 20 = .ok (.if_icmp .lt (14), 3) := dd_at dd_Ma_read 10 rfl
theorem d_Ma_read_23 : decode prog_8_method_8_code 23 = .ok (.aload_n 0, 1) := dd_at dd_Ma_read 11 rfl
theorem d_Ma_read_24 : decode prog_8_method_8_code 24 = .ok (.getfield 21, 3) := dd_at dd_Ma_read 12 rfl
theorem d_Ma_read_27 : decode prog_8_method_8_code 27 = .ok (.getstatic 220, 3) := dd_at dd_Ma_read 13 rfl
theorem d_Ma_read_30 : decode prog_8_method_8_code 30 = .ok (.invokevirtual 82, 3) := dd_at dd_Ma_read 14 rfl
theorem d_Ma_read_33 : decode prog_8_method_8_code 33 = .ok (.return_, 1) := dd_at dd_Ma_read 15 rfl
theorem d_Ma_read_34 : decode prog_8_method_8_code 34 = .ok (.aload_n 0, 1) := dd_at dd_Ma_read 16 rfl
theorem d_Ma_read_35 : decode prog_8_method_8_code 35 = .ok (.aload_n 1, 1) := dd_at dd_Ma_read 17 rfl
theorem d_Ma_read_36 : decode prog_8_method_8_code 36 = .ok (.iload_n 2, 1) := dd_at dd_Ma_read 18 rfl
theorem d_Ma_read_37 : decode prog_8_method_8_code 37 = .ok (.aload_n 0, 1) := dd_at dd_Ma_read 19 rfl
theorem d_Ma_read_38 : decode prog_8_method_8_code 38 = .ok (.getfield 44, 3) := dd_at dd_Ma_read 20 rfl
theorem d_Ma_read_41 : decode prog_8_method_8_code 41 = .ok (.aload_n 0, 1) := dd_at dd_Ma_read 21 rfl
theorem d_Ma_read_42 : decode prog_8_method_8_code 42 = .ok (.getfield 107, 3) := dd_at dd_Ma_read 22 rfl
theorem d_Ma_read_45 : decode prog_8_method_8_code 45 = .ok (.daload, 1) := dd_at dd_Ma_read 23 rfl
theorem d_Ma_read_46 : decode prog_8_method_8_code 46 = .ok (.invokevirtual 216, 3) := dd_at dd_Ma_read 24 rfl
theorem d_Ma_read_49 : decode prog_8_method_8_code 49 = .ok (.aload_n 0, 1) := dd_at dd_Ma_read 25 rfl
theorem d_Ma_read_50 : decode prog_8_method_8_code 50 = .ok (.dup, 1) := dd_at dd_Ma_read 26 rfl
theorem d_Ma_read_51 : decode prog_8_method_8_code 51 = .ok (.getfield 107, 3) := dd_at dd_Ma_read 27 rfl
theorem d_Ma_read_54 : decode prog_8_method_8_code 54 = .ok (.aload_n 0, 1) := dd_at dd_Ma_read 28 rfl
theorem d_Ma_read_55 : decode prog_8_method_8_code 55 = .ok (.getfield 21, 3) := dd_at dd_Ma_read 29 rfl
theorem d_Ma_read_58 : decode prog_8_method_8_code 58 = .ok (.invokevirtual 72, 3) := dd_at dd_Ma_read 30 rfl
theorem d_Ma_read_61 : decode prog_8_method_8_code 61 = .ok (.ifCond .eq (7), 3) := dd_at dd_Ma_read 31 rfl
theorem d_Ma_read_64 : decode prog_8_method_8_code 64 = .ok (.iconst 1, 1) := dd_at dd_Ma_read 32 rfl
theorem d_Ma_read_65 : decode prog_8_method_8_code 65 = .ok (.goto (4), 3) := dd_at dd_Ma_read 33 rfl
theorem d_Ma_read_68 : decode prog_8_method_8_code 68 = .ok (.iconst 0, 1) := dd_at dd_Ma_read 34 rfl
theorem d_Ma_read_69 : decode prog_8_method_8_code 69 = .ok (.iadd, 1) := dd_at dd_Ma_read 35 rfl
theorem d_Ma_read_70 : decode prog_8_method_8_code 70 = .ok (.putfield 107, 3) := dd_at dd_Ma_read 36 rfl
theorem d_Ma_read_73 : decode prog_8_method_8_code 73 = .ok (.return_, 1) := dd_at dd_Ma_read 37 rfl
def ld_Ca_evaluateB : List (Nat × Instr × Nat) := [(0, .aload_n 1, 1), (1, .iload_n 2, 1), (2, .invokevirtual 68, 3), (5, .aload_n 1, 1), (6, .getfield 72, 3), (9, .arraylength, 1), (10, .invokestatic 76, 3), (13, .istore 4, 2), (15, .aload_n 1, 1), (16, .iload_n 2, 1), (17, .invokevirtual 82, 3), (20, .istore 5, 2), (22, .iload 5, 2), (24, .iload 4, 2), (26, .if_icmp .ge (35), 3), (29, .aload_n 0, 1), (30, .invokevirtual 85, 3), (33, .ifCond .eq (28), 3), (36, .aload_n 0, 1), (37, .aload_n 1, 1), (38, .getfield 72, 3), (41, .iload 5, 2), (43, .iaload, 1), (44, .aload_n 1, 1), (45, .getfield 89, 3), (48, .iload 5, 2), (50, .iaload, 1), (51, .iload_n 3, 1), (52, .invokevirtual 92, 3), (55, .iinc 5 (1), 3), (58, .goto (-36), 3), (61, .aload_n 0, 1), (62, .invokevirtual 96, 3), (65, .dreturn, 1)]
theorem dd_Ca_evaluateB : (ld_Ca_evaluateB).all (dOK prog_3_method_14_code) = true := by decide +kernel
theorem d_Ca_evaluateB_0 : decode prog_3_method_14_code 0 = .ok (.aload_n 1, 1) := dd_at dd_Ca_evaluateB 0 rfl
theorem d_Ca_evaluateB_1 : decode prog_3_method_14_code 1 = .ok (.iload_n 2, 1) := dd_at dd_Ca_evaluateB 1 rfl
theorem d_Ca_evaluateB_2 : decode prog_3_method_14_code 2 = .ok (.invokevirtual 68, 3) := dd_at dd_Ca_evaluateB 2 rfl
theorem d_Ca_evaluateB_5 : decode prog_3_method_14_code 5 = .ok (.aload_n 1, 1) := dd_at dd_Ca_evaluateB 3 rfl
theorem d_Ca_evaluateB_6 : decode prog_3_method_14_code 6 = .ok (.getfield 72, 3) := dd_at dd_Ca_evaluateB 4 rfl
theorem d_Ca_evaluateB_9 : decode prog_3_method_14_code 9 = .ok (.arraylength, 1) := dd_at dd_Ca_evaluateB 5 rfl
theorem d_Ca_evaluateB_10 : decode prog_3_method_14_code 10 = .ok (.invokestatic 76, 3) := dd_at dd_Ca_evaluateB 6 rfl
theorem d_Ca_evaluateB_13 : decode prog_3_method_14_code 13 = .ok (.istore 4, 2) := dd_at dd_Ca_evaluateB 7 rfl
theorem d_Ca_evaluateB_15 : decode prog_3_method_14_code 15 = .ok (.aload_n 1, 1) := dd_at dd_Ca_evaluateB 8 rfl
theorem d_Ca_evaluateB_16 : decode prog_3_method_14_code 16 = .ok (.iload_n 2, 1) := dd_at dd_Ca_evaluateB 9 rfl
theorem d_Ca_evaluateB_17 : decode prog_3_method_14_code 17 = .ok (.invokevirtual 82, 3) := dd_at dd_Ca_evaluateB 10 rfl
theorem d_Ca_evaluateB_20 : decode prog_3_method_14_code 20 = .ok (.istore 5, 2) := dd_at dd_Ca_evaluateB 11 rfl
theorem d_Ca_evaluateB_22 : decode prog_3_method_14_code 22 = .ok (.iload 5, 2) := dd_at dd_Ca_evaluateB 12 rfl
theorem d_Ca_evaluateB_24 : decode prog_3_method_14_code 24 = .ok (.iload 4, 2) := dd_at dd_Ca_evaluateB 13 rfl
theorem d_Ca_evaluateB_26 : decode prog_3_method_14_code 26 = .ok (.if_icmp .ge (35), 3) := dd_at dd_Ca_evaluateB 14 rfl
theorem d_Ca_evaluateB_29 : decode prog_3_method_14_code 29 = .ok (.aload_n 0, 1) := dd_at dd_Ca_evaluateB 15 rfl
theorem d_Ca_evaluateB_30 : decode prog_3_method_14_code 30 = .ok (.invokevirtual 85, 3) := dd_at dd_Ca_evaluateB 16 rfl
theorem d_Ca_evaluateB_33 : decode prog_3_method_14_code 33 = .ok (.ifCond .eq (28), 3) := dd_at dd_Ca_evaluateB 17 rfl
theorem d_Ca_evaluateB_36 : decode prog_3_method_14_code 36 = .ok (.aload_n 0, 1) := dd_at dd_Ca_evaluateB 18 rfl
theorem d_Ca_evaluateB_37 : decode prog_3_method_14_code 37 = .ok (.aload_n 1, 1) := dd_at dd_Ca_evaluateB 19 rfl
theorem d_Ca_evaluateB_38 : decode prog_3_method_14_code 38 = .ok (.getfield 72, 3) := dd_at dd_Ca_evaluateB 20 rfl
theorem d_Ca_evaluateB_41 : decode prog_3_method_14_code 41 = .ok (.iload 5, 2) := dd_at dd_Ca_evaluateB 21 rfl
theorem d_Ca_evaluateB_43 : decode prog_3_method_14_code 43 = .ok (.iaload, 1) := dd_at dd_Ca_evaluateB 22 rfl
theorem d_Ca_evaluateB_44 : decode prog_3_method_14_code 44 = .ok (.aload_n 1, 1) := dd_at dd_Ca_evaluateB 23 rfl
theorem d_Ca_evaluateB_45 : decode prog_3_method_14_code 45 = .ok (.getfield 89, 3) := dd_at dd_Ca_evaluateB 24 rfl
theorem d_Ca_evaluateB_48 : decode prog_3_method_14_code 48 = .ok (.iload 5, 2) := dd_at dd_Ca_evaluateB 25 rfl
theorem d_Ca_evaluateB_50 : decode prog_3_method_14_code 50 = .ok (.iaload, 1) := dd_at dd_Ca_evaluateB 26 rfl
theorem d_Ca_evaluateB_51 : decode prog_3_method_14_code 51 = .ok (.iload_n 3, 1) := dd_at dd_Ca_evaluateB 27 rfl
theorem d_Ca_evaluateB_52 : decode prog_3_method_14_code 52 = .ok (.invokevirtual 92, 3) := dd_at dd_Ca_evaluateB 28 rfl
theorem d_Ca_evaluateB_55 : decode prog_3_method_14_code 55 = .ok (.iinc 5 (1), 3) := dd_at dd_Ca_evaluateB 29 rfl
theorem d_Ca_evaluateB_58 : decode prog_3_method_14_code 58 = .ok (.goto (-36), 3) := dd_at dd_Ca_evaluateB 30 rfl
theorem d_Ca_evaluateB_61 : decode prog_3_method_14_code 61 = .ok (.aload_n 0, 1) := dd_at dd_Ca_evaluateB 31 rfl
theorem d_Ca_evaluateB_62 : decode prog_3_method_14_code 62 = .ok (.invokevirtual 96, 3) := dd_at dd_Ca_evaluateB 32 rfl
theorem d_Ca_evaluateB_65 : decode prog_3_method_14_code 65 = .ok (.dreturn, 1) := dd_at dd_Ca_evaluateB 33 rfl
def ld_Pa_keyword : List (Nat × Instr × Nat) := [(0, .iconst 0, 1), (1, .istore_n 1, 1), (2, .iconst 0, 1), (3, .istore_n 2, 1), (4, .iload_n 2, 1), (5, .getstatic 72, 3), (8, .arraylength, 1), (9, .if_icmp .ge (67), 3), (12, .aload_n 0, 1), (13, .getstatic 72, 3), (16, .iload_n 2, 1), (17, .aaload, 1), (18, .getfield 76, 3), (21, .invokevirtual 82, 3), (24, .istore_n 3, 1), (25, .iload_n 3, 1), (26, .getstatic 72, 3), (29, .iload_n 2, 1), (30, .aaload, 1), (31, .getfield 76, 3), (34, .invokevirtual 59, 3), (37, .if_icmp .ne (27), 3), (40, .aload_n 0, 1), (41, .getfield 12, 3), (44, .getstatic 72, 3), (47, .iload_n 2, 1), (48, .aaload, 1), (49, .putfield 86, 3), (52, .aload_n 0, 1), (53, .dup, 1), (54, .getfield 26, 3), (57, .iload_n 3, 1), (58, .iadd, 1), (59, .putfield 26, 3), (62, .iconst 1, 1), (63, .ireturn, 1), (64, .iload_n 1, 1), (65, .iload_n 3, 1), (66, .invokestatic 90, 3), (69, .istore_n 1, 1), (70, .iinc 2 (1), 3), (73, .goto (-69), 3), (76, .aload_n 0, 1), (77, .dup, 1), (78, .getfield 26, 3), (81, .iload_n 1, 1), (82, .iadd, 1), (83, .putfield 26, 3), (86, .iconst 0, 1), (87, .ireturn, 1)]
theorem dd_Pa_keyword : (ld_Pa_keyword).all (dOK prog_10_method_8_code) = true := by decide +kernel
theorem d_Pa_keyword_0 : decode prog_10_method_8_code 0 = .ok (.iconst 0, 1) := dd_at dd_Pa_keyword 0 rfl
theorem d_Pa_keyword_1 : decode prog_10_method_8_code 1 = .ok (.istore_n 1, 1) := dd_at dd_Pa_keyword 1 rfl
theorem d_Pa_keyword_2 : decode prog_10_method_8_code 2 = .ok (.iconst 0, 1) := dd_at dd_Pa_keyword 2 rfl
theorem d_Pa_keyword_3 : decode prog_10_method_8_code 3 = .ok (.istore_n 2, 1) := dd_at dd_Pa_keyword 3 rfl
theorem d_Pa_keyword_4 : decode prog_10_method_8_code 4 = .ok (.iload_n 2, 1) := dd_at dd_Pa_keyword 4 rfl
theorem d_Pa_keyword_5 : decode prog_10_method_8_code 5 = .ok (.getstatic 72, 3) := dd_at dd_Pa_keyword 5 rfl
theorem d_Pa_keyword_8 : decode prog_10_method_8_code 8 = .ok (.arraylength, 1) := dd_at dd_Pa_keyword 6 rfl
theorem d_Pa_keyword_9 : decode prog_10_method_8_code 9 = .ok (.if_icmp .ge (67), 3) := dd_at dd_Pa_keyword 7 rfl
theorem d_Pa_keyword_12 : decode prog_10_method_8_code 12 = .ok (.aload_n 0, 1) := dd_at dd_Pa_keyword 8 rfl
theorem d_Pa_keyword_13 : decode prog_10_method_8_code 13 = .ok (.getstatic 72, 3) := dd_at dd_Pa_keyword 9 rfl
theorem d_Pa_keyword_16 : decode prog_10_method_8_code 16 = .ok (.iload_n 2, 1) := dd_at dd_Pa_keyword 10 rfl
theorem d_Pa_keyword_17 : decode prog_10_method_8_code 17 = .ok (.aaload, 1) := dd_at dd_Pa_keyword 11 rfl
theorem d_Pa_keyword_18 : decode prog_10_method_8_code 18 = .ok (.getfield 76, 3) := dd_at dd_Pa_keyword 12 rfl
theorem d_Pa_keyword_21 : decode prog_10_method_8_code 21 = .ok (.invokevirtual 82, 3) := dd_at dd_Pa_keyword 13 rfl
theorem d_Pa_keyword_24 : decode prog_10_method_8_code 24 = .ok (.istore_n 3, 1) := dd_at dd_Pa_keyword 14 rfl
theorem d_Pa_keyword_25 : decode prog_10_method_8_code 25 = .ok (.iload_n 3, 1) := dd_at dd_Pa_keyword 15 rfl
theorem d_Pa_keyword_26 : decode prog_10_method_8_code 26 = .ok (.getstatic 72, 3) := dd_at dd_Pa_keyword 16 rfl
theorem d_Pa_keyword_29 : decode prog_10_method_8_code 29 = .ok (.iload_n 2, 1) := dd_at dd_Pa_keyword 17 rfl
theorem d_Pa_keyword_30 : decode prog_10_method_8_code 30 = .ok (.aaload, 1) := dd_at dd_Pa_keyword 18 rfl
theorem d_Pa_keyword_31 : decode prog_10_method_8_code 31 = .ok (.getfield 76, 3) := dd_at dd_Pa_keyword 19 rfl
theorem d_Pa_keyword_34 : decode prog_10_method_8_code 34 = .ok (.invokevirtual 59, 3) := dd_at dd_Pa_keyword 20 rfl
theorem d_Pa_keyword_37 : decode prog_10_method_8_code 37 = .ok (.if_icmp .ne (27), 3) := dd_at dd_Pa_keyword 21 rfl
theorem d_Pa_keyword_40 : decode prog_10_method_8_code 40 = .ok (.aload_n 0, 1) := dd_at dd_Pa_keyword 22 rfl
theorem d_Pa_keyword_41 : decode prog_10_method_8_code 41 = .ok (.getfield 12, 3) := dd_at dd_Pa_keyword 23 rfl
theorem d_Pa_keyword_44 : decode prog_10_method_8_code 44 = .ok (.getstatic 72, 3) := dd_at dd_Pa_keyword 24 rfl
theorem d_Pa_keyword_47 : decode prog_10_method_8_code 47 = .ok (.iload_n 2, 1) := dd_at dd_Pa_keyword 25 rfl
theorem d_Pa_keyword_48 : decode prog_10_method_8_code 48 = .ok (.aaload, 1) := dd_at dd_Pa_keyword 26 rfl
theorem d_Pa_keyword_49 : decode prog_10_method_8_code 49 = .ok (.putfield 86, 3) := dd_at dd_Pa_keyword 27 rfl
theorem d_Pa_keyword_52 : decode prog_10_method_8_code 52 = .ok (.aload_n 0, 1) := dd_at dd_Pa_keyword 28 rfl
theorem d_Pa_keyword_53 : decode prog_10_method_8_code 53 = .ok (.dup, 1) := dd_at dd_Pa_keyword 29 rfl
theorem d_Pa_keyword_54 : decode prog_10_method_8_code 54 = .ok (.getfield 26, 3) := dd_at dd_Pa_keyword 30 rfl
theorem d_Pa_keyword_57 : decode prog_10_method_8_code 57 = .ok (.iload_n 3, 1) := dd_at dd_Pa_keyword 31 rfl
theorem d_Pa_keyword_58 : decode prog_10_method_8_code 58 = .ok (.iadd, 1) := dd_at dd_Pa_keyword 32 rfl
theorem d_Pa_keyword_59 : decode prog_10_method_8_code 59 = .ok (.putfield 26, 3) := dd_at dd_Pa_keyword 33 rfl
theorem d_Pa_keyword_62 : decode prog_10_method_8_code 62 = .ok (.iconst 1, 1) := dd_at dd_Pa_keyword 34 rfl
theorem d_Pa_keyword_63 : decode prog_10_method_8_code 63 = .ok (.ireturn, 1) := dd_at dd_Pa_keyword 35 rfl
theorem d_Pa_keyword_64 : decode prog_10_method_8_code 64 = .ok (.iload_n 1, 1) := dd_at dd_Pa_keyword 36 rfl
theorem d_Pa_keyword_65 : decode prog_10_method_8_code 65 = .ok (.iload_n 3, 1) := dd_at dd_Pa_keyword 37 rfl
theorem d_Pa_keyword_66 : decode prog_10_method_8_code 66 = .ok (.invokestatic 90, 3) := dd_at dd_Pa_keyword 38 rfl
theorem d_Pa_keyword_69 : decode prog_10_method_8_code 69 = .ok (.istore_n 1, 1) := dd_at dd_Pa_keyword 39 rfl
theorem d_Pa_keyword_70 : decode prog_10_method_8_code 70 = .ok (.iinc 2 (1), 3) := dd_at dd_Pa_keyword 40 rfl
theorem d_Pa_keyword_73 : decode prog_10_method_8_code 73 = .ok (.goto (-69), 3) := dd_at dd_Pa_keyword 41 rfl
theorem d_Pa_keyword_76 : decode prog_10_method_8_code 76 = .ok (.aload_n 0, 1) := dd_at dd_Pa_keyword 42 rfl
theorem d_Pa_keyword_77 : decode prog_10_method_8_code 77 = .ok (.dup, 1) := dd_at dd_Pa_keyword 43 rfl
theorem d_Pa_keyword_78 : decode prog_10_method_8_code 78 = .ok (.getfield 26, 3) := dd_at dd_Pa_keyword 44 rfl
theorem d_Pa_keyword_81 : decode prog_10_method_8_code 81 = .ok (.iload_n 1, 1) := dd_at dd_Pa_keyword 45 rfl
theorem d_Pa_keyword_82 : decode prog_10_method_8_code 82 = .ok (.iadd, 1) := dd_at dd_Pa_keyword 46 rfl
theorem d_Pa_keyword_83 : decode prog_10_method_8_code 83 = .ok (.putfield 26, 3) := dd_at dd_Pa_keyword 47 rfl
theorem d_Pa_keyword_86 : decode prog_10_method_8_code 86 = .ok (.iconst 0, 1) := dd_at dd_Pa_keyword 48 rfl
theorem d_Pa_keyword_87 : decode prog_10_method_8_code 87 = .ok (.ireturn, 1) := dd_at dd_Pa_keyword 49 rfl
def ld_Pa_constant : List (Nat × Instr × Nat) := [(0, .aload_n 0, 1), (1, .bipush (45), 2), (3, .invokevirtual 68, 3), (6, .istore_n 1, 1), (7, .aload_n 0, 1), (8, .invokevirtual 171, 3), (11, .ifCond .ne (5), 3), (14, .iconst 0, 1), (15, .ireturn, 1), (16, .aload_n 0, 1), (17, .getfield 12, 3), (20, .iload_n 1, 1), (21, .ifCond .eq (11), 3), (24, .aload_n 0, 1), (25, .getfield 40, 3), (28, .ineg, 1), (29, .goto (7), 3), (32, .aload_n 0, 1), (33, .getfield 40, 3), (36, .invokevirtual 164, 3), (39, .iconst 1, 1), (40, .ireturn, 1)]
theorem dd_Pa_constant : (ld_Pa_constant).all (dOK prog_10_method_16_code) = true := by decide +kernel
theorem d_Pa_constant_0 : decode prog_10_method_16_code 0 = .ok (.aload_n 0, 1) := dd_at dd_Pa_constant 0 rfl
theorem d_Pa_constant_1 : decode prog_10_method_16_code 1 = .ok (.bipush (45), 2) := dd_at dd_Pa_constant 1 rfl
theorem d_Pa_constant_3 : decode prog_10_method_16_code 3 = .ok (.invokevirtual 68, 3) := dd_at dd_Pa_constant 2 rfl
theorem d_Pa_constant_6 : decode prog_10_method_16_code 6 = .ok (.istore_n 1, 1) := dd_at dd_Pa_constant 3 rfl
theorem d_Pa_constant_7 : decode prog_10_method_16_code 7 = .ok (.aload_n 0, 1) := dd_at dd_Pa_constant 4 rfl
theorem d_Pa_constant_8 : decode prog_10_method_16_code 8 = .ok (.invokevirtual 171, 3) := dd_at dd_Pa_constant 5 rfl
theorem d_Pa_constant_11 : decode prog_10_method_16_code 11 = .ok (.ifCond .ne (5), 3) := dd_at dd_Pa_constant 6 rfl
theorem d_Pa_constant_14 : decode prog_10_method_16_code 14 = .ok (.iconst 0, 1) := dd_at dd_Pa_constant 7 rfl
theorem d_Pa_constant_15 : decode prog_10_method_16_code 15 = .ok (.ireturn, 1) := dd_at dd_Pa_constant 8 rfl
theorem d_Pa_constant_16 : decode prog_10_method_16_code 16 = .ok (.aload_n 0, 1) := dd_at dd_Pa_constant 9 rfl
theorem d_Pa_constant_17 : decode prog_10_method_16_code 17 = .ok (.getfield 12, 3) := dd_at dd_Pa_constant 10 rfl
theorem d_Pa_constant_20 : decode prog_10_method_16_code 20 = .ok (.iload_n 1, 1) := dd_at dd_Pa_constant 11 rfl
theorem d_Pa_constant_21 : decode prog_10_method_16_code 21 = .ok (.ifCond .eq (11), 3) := dd_at dd_Pa_constant 12 rfl
theorem d_Pa_constant_24 : decode prog_10_method_16_code 24 = .ok (.aload_n 0, 1) := dd_at dd_Pa_constant 13 rfl
theorem d_Pa_constant_25 : decode prog_10_method_16_code 25 = .ok (.getfield 40, 3) := dd_at dd_Pa_constant 14 rfl
theorem d_Pa_constant_28 : decode prog_10_method_16_code 28 = .ok (.ineg, 1) := dd_at dd_Pa_constant 15 rfl
theorem d_Pa_constant_29 : decode prog_10_method_16_code 29 = .ok (.goto (7), 3) := dd_at dd_Pa_constant 16 rfl
theorem d_Pa_constant_32 : decode prog_10_method_16_code 32 = .ok (.aload_n 0, 1) := dd_at dd_Pa_constant 17 rfl
theorem d_Pa_constant_33 : decode prog_10_method_16_code 33 = .ok (.getfield 40, 3) := dd_at dd_Pa_constant 18 rfl
theorem d_Pa_constant_36 : decode prog_10_method_16_code 36 = .ok (.invokevirtual 164, 3) := dd_at dd_Pa_constant 19 rfl
theorem d_Pa_constant_39 : decode prog_10_method_16_code 39 = .ok (.iconst 1, 1) := dd_at dd_Pa_constant 20 rfl
theorem d_Pa_constant_40 : decode prog_10_method_16_code 40 = .ok (.ireturn, 1) := dd_at dd_Pa_constant 21 rfl
def ld_Pa_callDefined : List (Nat × Instr × Nat) := [(0, .iload_n 1, 1), (1, .invokestatic 183, 3), (4, .ifCond .ne (5), 3), (7, .iconst 0, 1), (8, .ireturn, 1), (9, .aload_n 0, 1), (10, .dup, 1), (11, .getfield 26, 3), (14, .iconst 1, 1), (15, .iadd, 1), (16, .putfield 26, 3), (19, .aload_n 0, 1), (20, .bipush (12), 2), (22, .iload_n 1, 1), (23, .bipush (65), 2), (25, .isub, 1), (26, .invokevirtual 259, 3), (29, .ifCond .eq (27), 3), (32, .aload_n 0, 1), (33, .invokevirtual 269, 3), (36, .ifCond .eq (20), 3), (39, .aload_n 0, 1), (40, .bipush (13), 2), (42, .iload_n 1, 1), (43, .bipush (65), 2), (45, .isub, 1), (46, .invokevirtual 259, 3), (49, .ifCond .eq (7), 3), (52, .iconst 1, 1), (53, .goto (4), 3), (56, .iconst 0, 1), (57, .ireturn, 1)]
theorem dd_Pa_callDefined : (ld_Pa_callDefined).all (dOK prog_10_method_37_code) = true := by decide +kernel
theorem d_Pa_callDefined_0 : decode prog_10_method_37_code 0 = .ok (.iload_n 1, 1) := dd_at dd_Pa_callDefined 0 rfl
theorem d_Pa_callDefined_1 : decode prog_10_method_37_code 1 = .ok (.invokestatic 183, 3) := dd_at dd_Pa_callDefined 1 rfl
theorem d_Pa_callDefined_4 : decode prog_10_method_37_code 4 = .ok (.ifCond .ne (5), 3) := dd_at dd_Pa_callDefined 2 rfl
theorem d_Pa_callDefined_7 : decode prog_10_method_37_code 7 = .ok (.iconst 0, 1) := dd_at dd_Pa_callDefined 3 rfl
theorem d_Pa_callDefined_8 : decode prog_10_method_37_code 8 = .ok (.ireturn, 1) := dd_at dd_Pa_callDefined 4 rfl
theorem d_Pa_callDefined_9 : decode prog_10_method_37_code 9 = .ok (.aload_n 0, 1) := dd_at dd_Pa_callDefined 5 rfl
theorem d_Pa_callDefined_10 : decode prog_10_method_37_code 10 = .ok (.dup, 1) := dd_at dd_Pa_callDefined 6 rfl
theorem d_Pa_callDefined_11 : decode prog_10_method_37_code 11 = .ok (.getfield 26, 3) := dd_at dd_Pa_callDefined 7 rfl
theorem d_Pa_callDefined_14 : decode prog_10_method_37_code 14 = .ok (.iconst 1, 1) := dd_at dd_Pa_callDefined 8 rfl
theorem d_Pa_callDefined_15 : decode prog_10_method_37_code 15 = .ok (.iadd, 1) := dd_at dd_Pa_callDefined 9 rfl
theorem d_Pa_callDefined_16 : decode prog_10_method_37_code 16 = .ok (.putfield 26, 3) := dd_at dd_Pa_callDefined 10 rfl
theorem d_Pa_callDefined_19 : decode prog_10_method_37_code 19 = .ok (.aload_n 0, 1) := dd_at dd_Pa_callDefined 11 rfl
theorem d_Pa_callDefined_20 : decode prog_10_method_37_code 20 = .ok (.bipush (12), 2) := dd_at dd_Pa_callDefined 12 rfl
theorem d_Pa_callDefined_22 : decode prog_10_method_37_code 22 = .ok (.iload_n 1, 1) := dd_at dd_Pa_callDefined 13 rfl
theorem d_Pa_callDefined_23 : decode prog_10_method_37_code 23 = .ok (.bipush (65), 2) := dd_at dd_Pa_callDefined 14 rfl
theorem d_Pa_callDefined_25 : decode prog_10_method_37_code 25 = .ok (.isub, 1) := dd_at dd_Pa_callDefined 15 rfl
theorem d_Pa_callDefined_26 : decode prog_10_method_37_code 26 = .ok (.invokevirtual 259, 3) := dd_at dd_Pa_callDefined 16 rfl
theorem d_Pa_callDefined_29 : decode prog_10_method_37_code 29 = .ok (.ifCond .eq (27), 3) := dd_at dd_Pa_callDefined 17 rfl
theorem d_Pa_callDefined_32 : decode prog_10_method_37_code 32 = .ok (.aload_n 0, 1) := dd_at dd_Pa_callDefined 18 rfl
theorem d_Pa_callDefined_33 : decode prog_10_method_37_code 33 = .ok (.invokevirtual 269, 3) := dd_at dd_Pa_callDefined 19 rfl
theorem d_Pa_callDefined_36 : decode prog_10_method_37_code 36 = .ok (.ifCond .eq (20), 3) := dd_at dd_Pa_callDefined 20 rfl
theorem d_Pa_callDefined_39 : decode prog_10_method_37_code 39 = .ok (.aload_n 0, 1) := dd_at dd_Pa_callDefined 21 rfl
theorem d_Pa_callDefined_40 : decode prog_10_method_37_code 40 = .ok (.bipush (13), 2) := dd_at dd_Pa_callDefined 22 rfl
theorem d_Pa_callDefined_42 : decode prog_10_method_37_code 42 = .ok (.iload_n 1, 1) := dd_at dd_Pa_callDefined 23 rfl
theorem d_Pa_callDefined_43 : decode prog_10_method_37_code 43 = .ok (.bipush (65), 2) := dd_at dd_Pa_callDefined 24 rfl
theorem d_Pa_callDefined_45 : decode prog_10_method_37_code 45 = .ok (.isub, 1) := dd_at dd_Pa_callDefined 25 rfl
theorem d_Pa_callDefined_46 : decode prog_10_method_37_code 46 = .ok (.invokevirtual 259, 3) := dd_at dd_Pa_callDefined 26 rfl
theorem d_Pa_callDefined_49 : decode prog_10_method_37_code 49 = .ok (.ifCond .eq (7), 3) := dd_at dd_Pa_callDefined 27 rfl
theorem d_Pa_callDefined_52 : decode prog_10_method_37_code 52 = .ok (.iconst 1, 1) := dd_at dd_Pa_callDefined 28 rfl
theorem d_Pa_callDefined_53 : decode prog_10_method_37_code 53 = .ok (.goto (4), 3) := dd_at dd_Pa_callDefined 29 rfl
theorem d_Pa_callDefined_56 : decode prog_10_method_37_code 56 = .ok (.iconst 0, 1) := dd_at dd_Pa_callDefined 30 rfl
theorem d_Pa_callDefined_57 : decode prog_10_method_37_code 57 = .ok (.ireturn, 1) := dd_at dd_Pa_callDefined 31 rfl
def ld_Ca_workOut : List (Nat × Instr × Nat) := [(0, .aload_n 0, 1), (1, .aload_n 1, 1), (2, .iload_n 2, 1), (3, .iconst 0, 1), (4, .invokevirtual 64, 3), (7, .dreturn, 1)]
theorem dd_Ca_workOut : (ld_Ca_workOut).all (dOK prog_3_method_13_code) = true := by decide +kernel
theorem d_Ca_workOut_0 : decode prog_3_method_13_code 0 = .ok (.aload_n 0, 1) := dd_at dd_Ca_workOut 0 rfl
theorem d_Ca_workOut_1 : decode prog_3_method_13_code 1 = .ok (.aload_n 1, 1) := dd_at dd_Ca_workOut 1 rfl
theorem d_Ca_workOut_2 : decode prog_3_method_13_code 2 = .ok (.iload_n 2, 1) := dd_at dd_Ca_workOut 2 rfl
theorem d_Ca_workOut_3 : decode prog_3_method_13_code 3 = .ok (.iconst 0, 1) := dd_at dd_Ca_workOut 3 rfl
theorem d_Ca_workOut_4 : decode prog_3_method_13_code 4 = .ok (.invokevirtual 64, 3) := dd_at dd_Ca_workOut 4 rfl
theorem d_Ca_workOut_7 : decode prog_3_method_13_code 7 = .ok (.dreturn, 1) := dd_at dd_Ca_workOut 5 rfl
def ld_Ca_mat : List (Nat × Instr × Nat) := [(0, .aload_n 0, 1), (1, .aload_n 1, 1), (2, .getfield 177, 3), (5, .invokevirtual 110, 3), (8, .astore_n 2, 1), (9, .aload_n 0, 1), (10, .aload_n 1, 1), (11, .iconst 0, 1), (12, .invokevirtual 184, 3), (15, .invokevirtual 110, 3), (18, .astore_n 3, 1), (19, .aload_n 0, 1), (20, .aload_n 1, 1), (21, .iconst 1, 1), (22, .invokevirtual 184, 3), (25, .invokevirtual 110, 3), (28, .astore 4, 2), (30, .aload_n 1, 1), (31, .getfield 187, 3), (34, .aload_n 2, 1), (35, .aload_n 3, 1), (36, .aload 4, 2), (38, .invokestatic 191, 3), (41, .ifCond .ne (11), 3), (44, .aload_n 0, 1), (45, .getstatic 195, 3), (48, .invokevirtual 150, 3), (51, .return_, 1), (52, .aload_n 1, 1), (53, .getfield 187, 3), (56, .getstatic 198, 3), (59, .if_acmp .ne (12), 3), (62, .aload_n 0, 1), (63, .aload_n 1, 1), (64, .iconst 0, 1), (65, .invokevirtual 203, 3), (68, .goto (4), 3), (71, .dconst 0, 1), (72, .dstore 5, 2), (74, .aload_n 0, 1), (75, .aload_n 1, 1), (76, .getfield 187, 3), (79, .aload_n 2, 1), (80, .aload_n 3, 1), (81, .aload 4, 2), (83, .invokevirtual 207, 3), (86, .iconst 1, 1), (87, .istore 7, 2), (89, .iload 7, 2), (91, .aload_n 0, 1), (92, .getfield 37, 3), (95, .getfield 211, 3), (98, .if_icmp .gt (67), 3), (101, .iconst 1, 1), (102, .istore 8, 2), (104, .iload 8, 2), (106, .aload_n 0, 1), (107, .getfield 37, 3), (110, .getfield 214, 3), (113, .if_icmp .gt (46), 3), (116, .aload_n 0, 1), (117, .getfield 37, 3), (120, .aload_n 0, 1), (121, .getfield 37, 3), (124, .iload 7, 2), (126, .i2l, 1), (127, .iload 8, 2), (129, .i2l, 1), (130, .invokevirtual 163, 3), (133, .aload_n 0, 1), (134, .aload_n 1, 1), (135, .getfield 187, 3), (138, .aload_n 3, 1), (139, .aload 4, 2), (141, .dload 5, 2), (143, .iload 7, 2), (145, .iload 8, 2), (147, .invokevirtual 217, 3), (150, .invokevirtual 221, 3), (153, .iinc 8 (1), 3), (156, .goto (-52), 3), (159, .iinc 7 (1), 3), (162, .goto (-73), 3), (165, .aload_n 0, 1), (166, .invokevirtual 85, 3), (169, .ifCond .eq (11), 3), (172, .aload_n 2, 1), (173, .aload_n 0, 1), (174, .getfield 37, 3), (177, .invokevirtual 222, 3), (180, .return_, 1)]
theorem dd_Ca_mat : (ld_Ca_mat).all (dOK prog_3_method_24_code) = true := by decide +kernel
theorem d_Ca_mat_0 : decode prog_3_method_24_code 0 = .ok (.aload_n 0, 1) := dd_at dd_Ca_mat 0 rfl
theorem d_Ca_mat_1 : decode prog_3_method_24_code 1 = .ok (.aload_n 1, 1) := dd_at dd_Ca_mat 1 rfl
theorem d_Ca_mat_2 : decode prog_3_method_24_code 2 = .ok (.getfield 177, 3) := dd_at dd_Ca_mat 2 rfl
theorem d_Ca_mat_5 : decode prog_3_method_24_code 5 = .ok (.invokevirtual 110, 3) := dd_at dd_Ca_mat 3 rfl
theorem d_Ca_mat_8 : decode prog_3_method_24_code 8 = .ok (.astore_n 2, 1) := dd_at dd_Ca_mat 4 rfl
theorem d_Ca_mat_9 : decode prog_3_method_24_code 9 = .ok (.aload_n 0, 1) := dd_at dd_Ca_mat 5 rfl
theorem d_Ca_mat_10 : decode prog_3_method_24_code 10 = .ok (.aload_n 1, 1) := dd_at dd_Ca_mat 6 rfl
theorem d_Ca_mat_11 : decode prog_3_method_24_code 11 = .ok (.iconst 0, 1) := dd_at dd_Ca_mat 7 rfl
theorem d_Ca_mat_12 : decode prog_3_method_24_code 12 = .ok (.invokevirtual 184, 3) := dd_at dd_Ca_mat 8 rfl
theorem d_Ca_mat_15 : decode prog_3_method_24_code 15 = .ok (.invokevirtual 110, 3) := dd_at dd_Ca_mat 9 rfl
theorem d_Ca_mat_18 : decode prog_3_method_24_code 18 = .ok (.astore_n 3, 1) := dd_at dd_Ca_mat 10 rfl
theorem d_Ca_mat_19 : decode prog_3_method_24_code 19 = .ok (.aload_n 0, 1) := dd_at dd_Ca_mat 11 rfl
theorem d_Ca_mat_20 : decode prog_3_method_24_code 20 = .ok (.aload_n 1, 1) := dd_at dd_Ca_mat 12 rfl
theorem d_Ca_mat_21 : decode prog_3_method_24_code 21 = .ok (.iconst 1, 1) := dd_at dd_Ca_mat 13 rfl
theorem d_Ca_mat_22 : decode prog_3_method_24_code 22 = .ok (.invokevirtual 184, 3) := dd_at dd_Ca_mat 14 rfl
theorem d_Ca_mat_25 : decode prog_3_method_24_code 25 = .ok (.invokevirtual 110, 3) := dd_at dd_Ca_mat 15 rfl
theorem d_Ca_mat_28 : decode prog_3_method_24_code 28 = .ok (.astore 4, 2) := dd_at dd_Ca_mat 16 rfl
theorem d_Ca_mat_30 : decode prog_3_method_24_code 30 = .ok (.aload_n 1, 1) := dd_at dd_Ca_mat 17 rfl
theorem d_Ca_mat_31 : decode prog_3_method_24_code 31 = .ok (.getfield 187, 3) := dd_at dd_Ca_mat 18 rfl
theorem d_Ca_mat_34 : decode prog_3_method_24_code 34 = .ok (.aload_n 2, 1) := dd_at dd_Ca_mat 19 rfl
theorem d_Ca_mat_35 : decode prog_3_method_24_code 35 = .ok (.aload_n 3, 1) := dd_at dd_Ca_mat 20 rfl
theorem d_Ca_mat_36 : decode prog_3_method_24_code 36 = .ok (.aload 4, 2) := dd_at dd_Ca_mat 21 rfl
theorem d_Ca_mat_38 : decode prog_3_method_24_code 38 = .ok (.invokestatic 191, 3) := dd_at dd_Ca_mat 22 rfl
theorem d_Ca_mat_41 : decode prog_3_method_24_code 41 = .ok (.ifCond .ne (11), 3) := dd_at dd_Ca_mat 23 rfl
theorem d_Ca_mat_44 : decode prog_3_method_24_code 44 = .ok (.aload_n 0, 1) := dd_at dd_Ca_mat 24 rfl
theorem d_Ca_mat_45 : decode prog_3_method_24_code 45 = .ok (.getstatic 195, 3) := dd_at dd_Ca_mat 25 rfl
theorem d_Ca_mat_48 : decode prog_3_method_24_code 48 = .ok (.invokevirtual 150, 3) := dd_at dd_Ca_mat 26 rfl
theorem d_Ca_mat_51 : decode prog_3_method_24_code 51 = .ok (.return_, 1) := dd_at dd_Ca_mat 27 rfl
theorem d_Ca_mat_52 : decode prog_3_method_24_code 52 = .ok (.aload_n 1, 1) := dd_at dd_Ca_mat 28 rfl
theorem d_Ca_mat_53 : decode prog_3_method_24_code 53 = .ok (.getfield 187, 3) := dd_at dd_Ca_mat 29 rfl
theorem d_Ca_mat_56 : decode prog_3_method_24_code 56 = .ok (.getstatic 198, 3) := dd_at dd_Ca_mat 30 rfl
theorem d_Ca_mat_59 : decode prog_3_method_24_code 59 = .ok (.if_acmp .ne (12), 3) := dd_at dd_Ca_mat 31 rfl
theorem d_Ca_mat_62 : decode prog_3_method_24_code 62 = .ok (.aload_n 0, 1) := dd_at dd_Ca_mat 32 rfl
theorem d_Ca_mat_63 : decode prog_3_method_24_code 63 = .ok (.aload_n 1, 1) := dd_at dd_Ca_mat 33 rfl
theorem d_Ca_mat_64 : decode prog_3_method_24_code 64 = .ok (.iconst 0, 1) := dd_at dd_Ca_mat 34 rfl
theorem d_Ca_mat_65 : decode prog_3_method_24_code 65 = .ok (.invokevirtual 203, 3) := dd_at dd_Ca_mat 35 rfl
theorem d_Ca_mat_68 : decode prog_3_method_24_code 68 = .ok (.goto (4), 3) := dd_at dd_Ca_mat 36 rfl
theorem d_Ca_mat_71 : decode prog_3_method_24_code 71 = .ok (.dconst 0, 1) := dd_at dd_Ca_mat 37 rfl
theorem d_Ca_mat_72 : decode prog_3_method_24_code 72 = .ok (.dstore 5, 2) := dd_at dd_Ca_mat 38 rfl
theorem d_Ca_mat_74 : decode prog_3_method_24_code 74 = .ok (.aload_n 0, 1) := dd_at dd_Ca_mat 39 rfl
theorem d_Ca_mat_75 : decode prog_3_method_24_code 75 = .ok (.aload_n 1, 1) := dd_at dd_Ca_mat 40 rfl
theorem d_Ca_mat_76 : decode prog_3_method_24_code 76 = .ok (.getfield 187, 3) := dd_at dd_Ca_mat 41 rfl
theorem d_Ca_mat_79 : decode prog_3_method_24_code 79 = .ok (.aload_n 2, 1) := dd_at dd_Ca_mat 42 rfl
theorem d_Ca_mat_80 : decode prog_3_method_24_code 80 = .ok (.aload_n 3, 1) := dd_at dd_Ca_mat 43 rfl
theorem d_Ca_mat_81 : decode prog_3_method_24_code 81 = .ok (.aload 4, 2) := dd_at dd_Ca_mat 44 rfl
theorem d_Ca_mat_83 : decode prog_3_method_24_code 83 = .ok (.invokevirtual 207, 3) := dd_at dd_Ca_mat 45 rfl
theorem d_Ca_mat_86 : decode prog_3_method_24_code 86 = .ok (.iconst 1, 1) := dd_at dd_Ca_mat 46 rfl
theorem d_Ca_mat_87 : decode prog_3_method_24_code 87 = .ok (.istore 7, 2) := dd_at dd_Ca_mat 47 rfl
theorem d_Ca_mat_89 : decode prog_3_method_24_code 89 = .ok (.iload 7, 2) := dd_at dd_Ca_mat 48 rfl
theorem d_Ca_mat_91 : decode prog_3_method_24_code 91 = .ok (.aload_n 0, 1) := dd_at dd_Ca_mat 49 rfl
theorem d_Ca_mat_92 : decode prog_3_method_24_code 92 = .ok (.getfield 37, 3) := dd_at dd_Ca_mat 50 rfl
theorem d_Ca_mat_95 : decode prog_3_method_24_code 95 = .ok (.getfield 211, 3) := dd_at dd_Ca_mat 51 rfl
theorem d_Ca_mat_98 : decode prog_3_method_24_code 98 = .ok (.if_icmp .gt (67), 3) := dd_at dd_Ca_mat 52 rfl
theorem d_Ca_mat_101 : decode prog_3_method_24_code 101 = .ok (.iconst 1, 1) := dd_at dd_Ca_mat 53 rfl
theorem d_Ca_mat_102 : decode prog_3_method_24_code 102 = .ok (.istore 8, 2) := dd_at dd_Ca_mat 54 rfl
theorem d_Ca_mat_104 : decode prog_3_method_24_code 104 = .ok (.iload 8, 2) := dd_at dd_Ca_mat 55 rfl
theorem d_Ca_mat_106 : decode prog_3_method_24_code 106 = .ok (.aload_n 0, 1) := dd_at dd_Ca_mat 56 rfl
theorem d_Ca_mat_107 : decode prog_3_method_24_code 107 = .ok (.getfield 37, 3) := dd_at dd_Ca_mat 57 rfl
theorem d_Ca_mat_110 : decode prog_3_method_24_code 110 = .ok (.getfield 214, 3) := dd_at dd_Ca_mat 58 rfl
theorem d_Ca_mat_113 : decode prog_3_method_24_code 113 = .ok (.if_icmp .gt (46), 3) := dd_at dd_Ca_mat 59 rfl
theorem d_Ca_mat_116 : decode prog_3_method_24_code 116 = .ok (.aload_n 0, 1) := dd_at dd_Ca_mat 60 rfl
theorem d_Ca_mat_117 : decode prog_3_method_24_code 117 = .ok (.getfield 37, 3) := dd_at dd_Ca_mat 61 rfl
theorem d_Ca_mat_120 : decode prog_3_method_24_code 120 = .ok (.aload_n 0, 1) := dd_at dd_Ca_mat 62 rfl
theorem d_Ca_mat_121 : decode prog_3_method_24_code 121 = .ok (.getfield 37, 3) := dd_at dd_Ca_mat 63 rfl
theorem d_Ca_mat_124 : decode prog_3_method_24_code 124 = .ok (.iload 7, 2) := dd_at dd_Ca_mat 64 rfl
theorem d_Ca_mat_126 : decode prog_3_method_24_code 126 = .ok (.i2l, 1) := dd_at dd_Ca_mat 65 rfl
theorem d_Ca_mat_127 : decode prog_3_method_24_code 127 = .ok (.iload 8, 2) := dd_at dd_Ca_mat 66 rfl
theorem d_Ca_mat_129 : decode prog_3_method_24_code 129 = .ok (.i2l, 1) := dd_at dd_Ca_mat 67 rfl
theorem d_Ca_mat_130 : decode prog_3_method_24_code 130 = .ok (.invokevirtual 163, 3) := dd_at dd_Ca_mat 68 rfl
theorem d_Ca_mat_133 : decode prog_3_method_24_code 133 = .ok (.aload_n 0, 1) := dd_at dd_Ca_mat 69 rfl
theorem d_Ca_mat_134 : decode prog_3_method_24_code 134 = .ok (.aload_n 1, 1) := dd_at dd_Ca_mat 70 rfl
theorem d_Ca_mat_135 : decode prog_3_method_24_code 135 = .ok (.getfield 187, 3) := dd_at dd_Ca_mat 71 rfl
theorem d_Ca_mat_138 : decode prog_3_method_24_code 138 = .ok (.aload_n 3, 1) := dd_at dd_Ca_mat 72 rfl
theorem d_Ca_mat_139 : decode prog_3_method_24_code 139 = .ok (.aload 4, 2) := dd_at dd_Ca_mat 73 rfl
theorem d_Ca_mat_141 : decode prog_3_method_24_code 141 = .ok (.dload 5, 2) := dd_at dd_Ca_mat 74 rfl
theorem d_Ca_mat_143 : decode prog_3_method_24_code 143 = .ok (.iload 7, 2) := dd_at dd_Ca_mat 75 rfl
theorem d_Ca_mat_145 : decode prog_3_method_24_code 145 = .ok (.iload 8, 2) := dd_at dd_Ca_mat 76 rfl
theorem d_Ca_mat_147 : decode prog_3_method_24_code 147 = .ok (.invokevirtual 217, 3) := dd_at dd_Ca_mat 77 rfl
theorem d_Ca_mat_150 : decode prog_3_method_24_code 150 = .ok (.invokevirtual 221, 3) := dd_at dd_Ca_mat 78 rfl
theorem d_Ca_mat_153 : decode prog_3_method_24_code 153 = .ok (.iinc 8 (1), 3) := dd_at dd_Ca_mat 79 rfl
theorem d_Ca_mat_156 : decode prog_3_method_24_code 156 = .ok (.goto (-52), 3) := dd_at dd_Ca_mat 80 rfl
theorem d_Ca_mat_159 : decode prog_3_method_24_code 159 = .ok (.iinc 7 (1), 3) := dd_at dd_Ca_mat 81 rfl
theorem d_Ca_mat_162 : decode prog_3_method_24_code 162 = .ok (.goto (-73), 3) := dd_at dd_Ca_mat 82 rfl
theorem d_Ca_mat_165 : decode prog_3_method_24_code 165 = .ok (.aload_n 0, 1) := dd_at dd_Ca_mat 83 rfl
theorem d_Ca_mat_166 : decode prog_3_method_24_code 166 = .ok (.invokevirtual 85, 3) := dd_at dd_Ca_mat 84 rfl
theorem d_Ca_mat_169 : decode prog_3_method_24_code 169 = .ok (.ifCond .eq (11), 3) := dd_at dd_Ca_mat 85 rfl
theorem d_Ca_mat_172 : decode prog_3_method_24_code 172 = .ok (.aload_n 2, 1) := dd_at dd_Ca_mat 86 rfl
theorem d_Ca_mat_173 : decode prog_3_method_24_code 173 = .ok (.aload_n 0, 1) := dd_at dd_Ca_mat 87 rfl
theorem d_Ca_mat_174 : decode prog_3_method_24_code 174 = .ok (.getfield 37, 3) := dd_at dd_Ca_mat 88 rfl
theorem d_Ca_mat_177 : decode prog_3_method_24_code 177 = .ok (.invokevirtual 222, 3) := dd_at dd_Ca_mat 89 rfl
theorem d_Ca_mat_180 : decode prog_3_method_24_code 180 = .ok (.return_, 1) := dd_at dd_Ca_mat 90 rfl
def ld_Pa_constants : List (Nat × Instr × Nat) := [(0, .aload_n 0, 1), (1, .invokevirtual 168, 3), (4, .istore_n 1, 1), (5, .iconst 1, 1), (6, .istore_n 2, 1), (7, .iload_n 2, 1), (8, .bipush (6), 2), (10, .if_icmp .ge (27), 3), (13, .iload_n 1, 1), (14, .ifCond .eq (23), 3), (17, .aload_n 0, 1), (18, .bipush (44), 2), (20, .invokevirtual 68, 3), (23, .ifCond .eq (14), 3), (26, .aload_n 0, 1), (27, .invokevirtual 168, 3), (30, .istore_n 1, 1), (31, .iinc 2 (1), 3), (34, .goto (-27), 3), (37, .iload_n 1, 1), (38, .ireturn, 1)]
theorem dd_Pa_constants : (ld_Pa_constants).all (dOK prog_10_method_15_code) = true := by decide +kernel
theorem d_Pa_constants_0 : decode prog_10_method_15_code 0 = .ok (.aload_n 0, 1) := dd_at dd_Pa_constants 0 rfl
theorem d_Pa_constants_1 : decode prog_10_method_15_code 1 = .ok (.invokevirtual 168, 3) := dd_at dd_Pa_constants 1 rfl
theorem d_Pa_constants_4 : decode prog_10_method_15_code 4 = .ok (.istore_n 1, 1) := dd_at dd_Pa_constants 2 rfl
theorem d_Pa_constants_5 : decode prog_10_method_15_code 5 = .ok (.iconst 1, 1) := dd_at dd_Pa_constants 3 rfl
theorem d_Pa_constants_6 : decode prog_10_method_15_code 6 = .ok (.istore_n 2, 1) := dd_at dd_Pa_constants 4 rfl
theorem d_Pa_constants_7 : decode prog_10_method_15_code 7 = .ok (.iload_n 2, 1) := dd_at dd_Pa_constants 5 rfl
theorem d_Pa_constants_8 : decode prog_10_method_15_code 8 = .ok (.bipush (6), 2) := dd_at dd_Pa_constants 6 rfl
theorem d_Pa_constants_10 : decode prog_10_method_15_code 10 = .ok (.if_icmp .ge (27), 3) := dd_at dd_Pa_constants 7 rfl
theorem d_Pa_constants_13 : decode prog_10_method_15_code 13 = .ok (.iload_n 1, 1) := dd_at dd_Pa_constants 8 rfl
theorem d_Pa_constants_14 : decode prog_10_method_15_code 14 = .ok (.ifCond .eq (23), 3) := dd_at dd_Pa_constants 9 rfl
theorem d_Pa_constants_17 : decode prog_10_method_15_code 17 = .ok (.aload_n 0, 1) := dd_at dd_Pa_constants 10 rfl
theorem d_Pa_constants_18 : decode prog_10_method_15_code 18 = .ok (.bipush (44), 2) := dd_at dd_Pa_constants 11 rfl
theorem d_Pa_constants_20 : decode prog_10_method_15_code 20 = .ok (.invokevirtual 68, 3) := dd_at dd_Pa_constants 12 rfl
theorem d_Pa_constants_23 : decode prog_10_method_15_code 23 = .ok (.ifCond .eq (14), 3) := dd_at dd_Pa_constants 13 rfl
theorem d_Pa_constants_26 : decode prog_10_method_15_code 26 = .ok (.aload_n 0, 1) := dd_at dd_Pa_constants 14 rfl
theorem d_Pa_constants_27 : decode prog_10_method_15_code 27 = .ok (.invokevirtual 168, 3) := dd_at dd_Pa_constants 15 rfl
theorem d_Pa_constants_30 : decode prog_10_method_15_code 30 = .ok (.istore_n 1, 1) := dd_at dd_Pa_constants 16 rfl
theorem d_Pa_constants_31 : decode prog_10_method_15_code 31 = .ok (.iinc 2 (1), 3) := dd_at dd_Pa_constants 17 rfl
theorem d_Pa_constants_34 : decode prog_10_method_15_code 34 = .ok (.goto (-27), 3) := dd_at dd_Pa_constants 18 rfl
theorem d_Pa_constants_37 : decode prog_10_method_15_code 37 = .ok (.iload_n 1, 1) := dd_at dd_Pa_constants 19 rfl
theorem d_Pa_constants_38 : decode prog_10_method_15_code 38 = .ok (.ireturn, 1) := dd_at dd_Pa_constants 20 rfl
def ld_Pa_call : List (Nat × Instr × Nat) := [(0, .aload_n 0, 1), (1, .dup, 1), (2, .getfield 26, 3), (5, .iconst 1, 1), (6, .iadd, 1), (7, .putfield 26, 3), (10, .aload_n 0, 1), (11, .getfield 30, 3), (14, .bipush (6), 2), (16, .if_icmp .lt (5), 3), (19, .iconst 0, 1), (20, .ireturn, 1), (21, .iload_n 1, 1), (22, .lookupswitch (133) #[((65), (34)), ((73), (67)), ((83), (100))], 34), (56, .aload_n 0, 1), (57, .ldc_w 288, 3), (60, .invokevirtual 120, 3), (63, .ifCond .eq (24), 3), (66, .aload_n 0, 1), (67, .invokevirtual 269, 3), (70, .ifCond .eq (17), 3), (73, .aload_n 0, 1), (74, .bipush (9), 2), (76, .iconst 0, 1), (77, .invokevirtual 259, 3), (80, .ifCond .eq (7), 3), (83, .iconst 1, 1), (84, .goto (4), 3), (87, .iconst 0, 1), (88, .ireturn, 1), (89, .aload_n 0, 1), (90, .ldc_w 290, 3), (93, .invokevirtual 120, 3), (96, .ifCond .eq (24), 3), (99, .aload_n 0, 1), (100, .invokevirtual 269, 3), (103, .ifCond .eq (17), 3), (106, .aload_n 0, 1), (107, .bipush (10), 2), (109, .iconst 0, 1), (110, .invokevirtual 259, 3), (113, .ifCond .eq (7), 3), (116, .iconst 1, 1), (117, .goto (4), 3), (120, .iconst 0, 1), (121, .ireturn, 1), (122, .aload_n 0, 1), (123, .ldc_w 292, 3), (126, .invokevirtual 120, 3), (129, .ifCond .eq (24), 3), (132, .aload_n 0, 1), (133, .invokevirtual 269, 3), (136, .ifCond .eq (17), 3), (139, .aload_n 0, 1), (140, .bipush (11), 2), (142, .iconst 0, 1), (143, .invokevirtual 259, 3), (146, .ifCond .eq (7), 3), (149, .iconst 1, 1), (150, .goto (4), 3), (153, .iconst 0, 1), (154, .ireturn, 1), (155, .aload_n 0, 1), (156, .ldc_w 294, 3), (159, .invokevirtual 120, 3), (162, .ifCond .eq (18), 3), (165, .aload_n 0, 1), (166, .aload_n 0, 1), (167, .invokevirtual 157, 3), (170, .invokevirtual 296, 3), (173, .ifCond .eq (7), 3), (176, .iconst 1, 1), (177, .goto (4), 3), (180, .iconst 0, 1), (181, .ireturn, 1)]
theorem dd_Pa_call : (ld_Pa_call).all (dOK prog_10_method_36_code) = true := by decide +kernel
theorem d_Pa_call_0 : decode prog_10_method_36_code 0 = .ok (.aload_n 0, 1) := dd_at dd_Pa_call 0 rfl
theorem d_Pa_call_1 : decode prog_10_method_36_code 1 = .ok (.dup, 1) := dd_at dd_Pa_call 1 rfl
theorem d_Pa_call_2 : decode prog_10_method_36_code 2 = .ok (.getfield 26, 3) := dd_at dd_Pa_call 2 rfl
theorem d_Pa_call_5 : decode prog_10_method_36_code 5 = .ok (.iconst 1, 1) := dd_at dd_Pa_call 3 rfl
theorem d_Pa_call_6 : decode prog_10_method_36_code 6 = .ok (.iadd, 1) := dd_at dd_Pa_call 4 rfl
theorem d_Pa_call_7 : decode prog_10_method_36_code 7 = .ok (.putfield 26, 3) := dd_at dd_Pa_call 5 rfl
theorem d_Pa_call_10 : decode prog_10_method_36_code 10 = .ok (.aload_n 0, 1) := dd_at dd_Pa_call 6 rfl
theorem d_Pa_call_11 : decode prog_10_method_36_code 11 = .ok (.getfield 30, 3) := dd_at dd_Pa_call 7 rfl
theorem d_Pa_call_14 : decode prog_10_method_36_code 14 = .ok (.bipush (6), 2) := dd_at dd_Pa_call 8 rfl
theorem d_Pa_call_16 : decode prog_10_method_36_code 16 = .ok (.if_icmp .lt (5), 3) := dd_at dd_Pa_call 9 rfl
theorem d_Pa_call_19 : decode prog_10_method_36_code 19 = .ok (.iconst 0, 1) := dd_at dd_Pa_call 10 rfl
theorem d_Pa_call_20 : decode prog_10_method_36_code 20 = .ok (.ireturn, 1) := dd_at dd_Pa_call 11 rfl
theorem d_Pa_call_21 : decode prog_10_method_36_code 21 = .ok (.iload_n 1, 1) := dd_at dd_Pa_call 12 rfl
theorem d_Pa_call_22 : decode prog_10_method_36_code 22 = .ok (.lookupswitch (133) #[((65), (34)), ((73), (67)), ((83), (100))], 34) := dd_at dd_Pa_call 13 rfl
theorem d_Pa_call_56 : decode prog_10_method_36_code 56 = .ok (.aload_n 0, 1) := dd_at dd_Pa_call 14 rfl
theorem d_Pa_call_57 : decode prog_10_method_36_code 57 = .ok (.ldc_w 288, 3) := dd_at dd_Pa_call 15 rfl
theorem d_Pa_call_60 : decode prog_10_method_36_code 60 = .ok (.invokevirtual 120, 3) := dd_at dd_Pa_call 16 rfl
theorem d_Pa_call_63 : decode prog_10_method_36_code 63 = .ok (.ifCond .eq (24), 3) := dd_at dd_Pa_call 17 rfl
theorem d_Pa_call_66 : decode prog_10_method_36_code 66 = .ok (.aload_n 0, 1) := dd_at dd_Pa_call 18 rfl
theorem d_Pa_call_67 : decode prog_10_method_36_code 67 = .ok (.invokevirtual 269, 3) := dd_at dd_Pa_call 19 rfl
theorem d_Pa_call_70 : decode prog_10_method_36_code 70 = .ok (.ifCond .eq (17), 3) := dd_at dd_Pa_call 20 rfl
theorem d_Pa_call_73 : decode prog_10_method_36_code 73 = .ok (.aload_n 0, 1) := dd_at dd_Pa_call 21 rfl
theorem d_Pa_call_74 : decode prog_10_method_36_code 74 = .ok (.bipush (9), 2) := dd_at dd_Pa_call 22 rfl
theorem d_Pa_call_76 : decode prog_10_method_36_code 76 = .ok (.iconst 0, 1) := dd_at dd_Pa_call 23 rfl
theorem d_Pa_call_77 : decode prog_10_method_36_code 77 = .ok (.invokevirtual 259, 3) := dd_at dd_Pa_call 24 rfl
theorem d_Pa_call_80 : decode prog_10_method_36_code 80 = .ok (.ifCond .eq (7), 3) := dd_at dd_Pa_call 25 rfl
theorem d_Pa_call_83 : decode prog_10_method_36_code 83 = .ok (.iconst 1, 1) := dd_at dd_Pa_call 26 rfl
theorem d_Pa_call_84 : decode prog_10_method_36_code 84 = .ok (.goto (4), 3) := dd_at dd_Pa_call 27 rfl
theorem d_Pa_call_87 : decode prog_10_method_36_code 87 = .ok (.iconst 0, 1) := dd_at dd_Pa_call 28 rfl
theorem d_Pa_call_88 : decode prog_10_method_36_code 88 = .ok (.ireturn, 1) := dd_at dd_Pa_call 29 rfl
theorem d_Pa_call_89 : decode prog_10_method_36_code 89 = .ok (.aload_n 0, 1) := dd_at dd_Pa_call 30 rfl
theorem d_Pa_call_90 : decode prog_10_method_36_code 90 = .ok (.ldc_w 290, 3) := dd_at dd_Pa_call 31 rfl
theorem d_Pa_call_93 : decode prog_10_method_36_code 93 = .ok (.invokevirtual 120, 3) := dd_at dd_Pa_call 32 rfl
theorem d_Pa_call_96 : decode prog_10_method_36_code 96 = .ok (.ifCond .eq (24), 3) := dd_at dd_Pa_call 33 rfl
theorem d_Pa_call_99 : decode prog_10_method_36_code 99 = .ok (.aload_n 0, 1) := dd_at dd_Pa_call 34 rfl
theorem d_Pa_call_100 : decode prog_10_method_36_code 100 = .ok (.invokevirtual 269, 3) := dd_at dd_Pa_call 35 rfl
theorem d_Pa_call_103 : decode prog_10_method_36_code 103 = .ok (.ifCond .eq (17), 3) := dd_at dd_Pa_call 36 rfl
theorem d_Pa_call_106 : decode prog_10_method_36_code 106 = .ok (.aload_n 0, 1) := dd_at dd_Pa_call 37 rfl
theorem d_Pa_call_107 : decode prog_10_method_36_code 107 = .ok (.bipush (10), 2) := dd_at dd_Pa_call 38 rfl
theorem d_Pa_call_109 : decode prog_10_method_36_code 109 = .ok (.iconst 0, 1) := dd_at dd_Pa_call 39 rfl
theorem d_Pa_call_110 : decode prog_10_method_36_code 110 = .ok (.invokevirtual 259, 3) := dd_at dd_Pa_call 40 rfl
theorem d_Pa_call_113 : decode prog_10_method_36_code 113 = .ok (.ifCond .eq (7), 3) := dd_at dd_Pa_call 41 rfl
theorem d_Pa_call_116 : decode prog_10_method_36_code 116 = .ok (.iconst 1, 1) := dd_at dd_Pa_call 42 rfl
theorem d_Pa_call_117 : decode prog_10_method_36_code 117 = .ok (.goto (4), 3) := dd_at dd_Pa_call 43 rfl
theorem d_Pa_call_120 : decode prog_10_method_36_code 120 = .ok (.iconst 0, 1) := dd_at dd_Pa_call 44 rfl
theorem d_Pa_call_121 : decode prog_10_method_36_code 121 = .ok (.ireturn, 1) := dd_at dd_Pa_call 45 rfl
theorem d_Pa_call_122 : decode prog_10_method_36_code 122 = .ok (.aload_n 0, 1) := dd_at dd_Pa_call 46 rfl
theorem d_Pa_call_123 : decode prog_10_method_36_code 123 = .ok (.ldc_w 292, 3) := dd_at dd_Pa_call 47 rfl
theorem d_Pa_call_126 : decode prog_10_method_36_code 126 = .ok (.invokevirtual 120, 3) := dd_at dd_Pa_call 48 rfl
theorem d_Pa_call_129 : decode prog_10_method_36_code 129 = .ok (.ifCond .eq (24), 3) := dd_at dd_Pa_call 49 rfl
theorem d_Pa_call_132 : decode prog_10_method_36_code 132 = .ok (.aload_n 0, 1) := dd_at dd_Pa_call 50 rfl
theorem d_Pa_call_133 : decode prog_10_method_36_code 133 = .ok (.invokevirtual 269, 3) := dd_at dd_Pa_call 51 rfl
theorem d_Pa_call_136 : decode prog_10_method_36_code 136 = .ok (.ifCond .eq (17), 3) := dd_at dd_Pa_call 52 rfl
theorem d_Pa_call_139 : decode prog_10_method_36_code 139 = .ok (.aload_n 0, 1) := dd_at dd_Pa_call 53 rfl
theorem d_Pa_call_140 : decode prog_10_method_36_code 140 = .ok (.bipush (11), 2) := dd_at dd_Pa_call 54 rfl
theorem d_Pa_call_142 : decode prog_10_method_36_code 142 = .ok (.iconst 0, 1) := dd_at dd_Pa_call 55 rfl
theorem d_Pa_call_143 : decode prog_10_method_36_code 143 = .ok (.invokevirtual 259, 3) := dd_at dd_Pa_call 56 rfl
theorem d_Pa_call_146 : decode prog_10_method_36_code 146 = .ok (.ifCond .eq (7), 3) := dd_at dd_Pa_call 57 rfl
theorem d_Pa_call_149 : decode prog_10_method_36_code 149 = .ok (.iconst 1, 1) := dd_at dd_Pa_call 58 rfl
theorem d_Pa_call_150 : decode prog_10_method_36_code 150 = .ok (.goto (4), 3) := dd_at dd_Pa_call 59 rfl
theorem d_Pa_call_153 : decode prog_10_method_36_code 153 = .ok (.iconst 0, 1) := dd_at dd_Pa_call 60 rfl
theorem d_Pa_call_154 : decode prog_10_method_36_code 154 = .ok (.ireturn, 1) := dd_at dd_Pa_call 61 rfl
theorem d_Pa_call_155 : decode prog_10_method_36_code 155 = .ok (.aload_n 0, 1) := dd_at dd_Pa_call 62 rfl
theorem d_Pa_call_156 : decode prog_10_method_36_code 156 = .ok (.ldc_w 294, 3) := dd_at dd_Pa_call 63 rfl
theorem d_Pa_call_159 : decode prog_10_method_36_code 159 = .ok (.invokevirtual 120, 3) := dd_at dd_Pa_call 64 rfl
theorem d_Pa_call_162 : decode prog_10_method_36_code 162 = .ok (.ifCond .eq (18), 3) := dd_at dd_Pa_call 65 rfl
theorem d_Pa_call_165 : decode prog_10_method_36_code 165 = .ok (.aload_n 0, 1) := dd_at dd_Pa_call 66 rfl
theorem d_Pa_call_166 : decode prog_10_method_36_code 166 = .ok (.aload_n 0, 1) := dd_at dd_Pa_call 67 rfl
theorem d_Pa_call_167 : decode prog_10_method_36_code 167 = .ok (.invokevirtual 157, 3) := dd_at dd_Pa_call 68 rfl
theorem d_Pa_call_170 : decode prog_10_method_36_code 170 = .ok (.invokevirtual 296, 3) := dd_at dd_Pa_call 69 rfl
theorem d_Pa_call_173 : decode prog_10_method_36_code 173 = .ok (.ifCond .eq (7), 3) := dd_at dd_Pa_call 70 rfl
theorem d_Pa_call_176 : decode prog_10_method_36_code 176 = .ok (.iconst 1, 1) := dd_at dd_Pa_call 71 rfl
theorem d_Pa_call_177 : decode prog_10_method_36_code 177 = .ok (.goto (4), 3) := dd_at dd_Pa_call 72 rfl
theorem d_Pa_call_180 : decode prog_10_method_36_code 180 = .ok (.iconst 0, 1) := dd_at dd_Pa_call 73 rfl
theorem d_Pa_call_181 : decode prog_10_method_36_code 181 = .ok (.ireturn, 1) := dd_at dd_Pa_call 74 rfl
def ld_Ma_targetPlace : List (Nat × Instr × Nat) := [(0, .aload_n 1, 1), (1, .getfield 205, 3), (4, .ifCond .ne (5), 3), (7, .iconst 0, 1), (8, .ireturn, 1), (9, .aload_n 0, 1), (10, .getfield 21, 3), (13, .aload_n 1, 1), (14, .iconst 0, 1), (15, .invokevirtual 149, 3), (18, .dstore_n 2, 1), (19, .aload_n 0, 1), (20, .getfield 21, 3), (23, .aload_n 1, 1), (24, .iconst 1, 1), (25, .invokevirtual 149, 3), (28, .dstore 4, 2), (30, .aload_n 0, 1), (31, .getfield 21, 3), (34, .aload_n 1, 1), (35, .getfield 176, 3), (38, .invokevirtual 185, 3), (41, .dload_n 2, 1), (42, .d2l, 1), (43, .dload 4, 2), (45, .d2l, 1), (46, .invokevirtual 209, 3), (49, .istore 6, 2), (51, .iload 6, 2), (53, .ifCond .ge (13), 3), (56, .aload_n 0, 1), (57, .getfield 21, 3), (60, .getstatic 213, 3), (63, .invokevirtual 82, 3), (66, .iload 6, 2), (68, .ireturn, 1)]
theorem dd_Ma_targetPlace : (ld_Ma_targetPlace).all (dOK prog_8_method_6_code) = true := by decide +kernel
theorem d_Ma_targetPlace_0 : decode prog_8_method_6_code 0 = .ok (.aload_n 1, 1) := dd_at dd_Ma_targetPlace 0 rfl
theorem d_Ma_targetPlace_1 : decode prog_8_method_6_code 1 = .ok (.getfield 205, 3) := dd_at dd_Ma_targetPlace 1 rfl
theorem d_Ma_targetPlace_4 : decode prog_8_method_6_code 4 = .ok (.ifCond .ne (5), 3) := dd_at dd_Ma_targetPlace 2 rfl
theorem d_Ma_targetPlace_7 : decode prog_8_method_6_code 7 = .ok (.iconst 0, 1) := dd_at dd_Ma_targetPlace 3 rfl
theorem d_Ma_targetPlace_8 : decode prog_8_method_6_code 8 = .ok (.ireturn, 1) := dd_at dd_Ma_targetPlace 4 rfl
theorem d_Ma_targetPlace_9 : decode prog_8_method_6_code 9 = .ok (.aload_n 0, 1) := dd_at dd_Ma_targetPlace 5 rfl
theorem d_Ma_targetPlace_10 : decode prog_8_method_6_code 10 = .ok (.getfield 21, 3) := dd_at dd_Ma_targetPlace 6 rfl
theorem d_Ma_targetPlace_13 : decode prog_8_method_6_code 13 = .ok (.aload_n 1, 1) := dd_at dd_Ma_targetPlace 7 rfl
theorem d_Ma_targetPlace_14 : decode prog_8_method_6_code 14 = .ok (.iconst 0, 1) := dd_at dd_Ma_targetPlace 8 rfl
theorem d_Ma_targetPlace_15 : decode prog_8_method_6_code 15 = .ok (.invokevirtual 149, 3) := dd_at dd_Ma_targetPlace 9 rfl
theorem d_Ma_targetPlace_18 : decode prog_8_method_6_code 18 = .ok (.dstore_n 2, 1) := dd_at dd_Ma_targetPlace 10 rfl
theorem d_Ma_targetPlace_19 : decode prog_8_method_6_code 19 = .ok (.aload_n 0, 1) := dd_at dd_Ma_targetPlace 11 rfl
theorem d_Ma_targetPlace_20 : decode prog_8_method_6_code 20 = .ok (.getfield 21, 3) := dd_at dd_Ma_targetPlace 12 rfl
theorem d_Ma_targetPlace_23 : decode prog_8_method_6_code 23 = .ok (.aload_n 1, 1) := dd_at dd_Ma_targetPlace 13 rfl
theorem d_Ma_targetPlace_24 : decode prog_8_method_6_code 24 = .ok (.iconst 1, 1) := dd_at dd_Ma_targetPlace 14 rfl
theorem d_Ma_targetPlace_25 : decode prog_8_method_6_code 25 = .ok (.invokevirtual 149, 3) := dd_at dd_Ma_targetPlace 15 rfl
theorem d_Ma_targetPlace_28 : decode prog_8_method_6_code 28 = .ok (.dstore 4, 2) := dd_at dd_Ma_targetPlace 16 rfl
theorem d_Ma_targetPlace_30 : decode prog_8_method_6_code 30 = .ok (.aload_n 0, 1) := dd_at dd_Ma_targetPlace 17 rfl
theorem d_Ma_targetPlace_31 : decode prog_8_method_6_code 31 = .ok (.getfield 21, 3) := dd_at dd_Ma_targetPlace 18 rfl
theorem d_Ma_targetPlace_34 : decode prog_8_method_6_code 34 = .ok (.aload_n 1, 1) := dd_at dd_Ma_targetPlace 19 rfl
theorem d_Ma_targetPlace_35 : decode prog_8_method_6_code 35 = .ok (.getfield 176, 3) := dd_at dd_Ma_targetPlace 20 rfl
theorem d_Ma_targetPlace_38 : decode prog_8_method_6_code 38 = .ok (.invokevirtual 185, 3) := dd_at dd_Ma_targetPlace 21 rfl
theorem d_Ma_targetPlace_41 : decode prog_8_method_6_code 41 = .ok (.dload_n 2, 1) := dd_at dd_Ma_targetPlace 22 rfl
theorem d_Ma_targetPlace_42 : decode prog_8_method_6_code 42 = .ok (.d2l, 1) := dd_at dd_Ma_targetPlace 23 rfl
theorem d_Ma_targetPlace_43 : decode prog_8_method_6_code 43 = .ok (.dload 4, 2) := dd_at dd_Ma_targetPlace 24 rfl
theorem d_Ma_targetPlace_45 : decode prog_8_method_6_code 45 = .ok (.d2l, 1) := dd_at dd_Ma_targetPlace 25 rfl
theorem d_Ma_targetPlace_46 : decode prog_8_method_6_code 46 = .ok (.invokevirtual 209, 3) := dd_at dd_Ma_targetPlace 26 rfl
theorem d_Ma_targetPlace_49 : decode prog_8_method_6_code 49 = .ok (.istore 6, 2) := dd_at dd_Ma_targetPlace 27 rfl
theorem d_Ma_targetPlace_51 : decode prog_8_method_6_code 51 = .ok (.iload 6, 2) := dd_at dd_Ma_targetPlace 28 rfl
theorem d_Ma_targetPlace_53 : decode prog_8_method_6_code 53 = .ok (.ifCond .ge (13), 3) := dd_at dd_Ma_targetPlace 29 rfl
theorem d_Ma_targetPlace_56 : decode prog_8_method_6_code 56 = .ok (.aload_n 0, 1) := dd_at dd_Ma_targetPlace 30 rfl
theorem d_Ma_targetPlace_57 : decode prog_8_method_6_code 57 = .ok (.getfield 21, 3) := dd_at dd_Ma_targetPlace 31 rfl
theorem d_Ma_targetPlace_60 : decode prog_8_method_6_code 60 = .ok (.getstatic 213, 3) := dd_at dd_Ma_targetPlace 32 rfl
theorem d_Ma_targetPlace_63 : decode prog_8_method_6_code 63 = .ok (.invokevirtual 82, 3) := dd_at dd_Ma_targetPlace 33 rfl
theorem d_Ma_targetPlace_66 : decode prog_8_method_6_code 66 = .ok (.iload 6, 2) := dd_at dd_Ma_targetPlace 34 rfl
theorem d_Ma_targetPlace_68 : decode prog_8_method_6_code 68 = .ok (.ireturn, 1) := dd_at dd_Ma_targetPlace 35 rfl
def ld_Ma_let : List (Nat × Instr × Nat) := [(0, .aload_n 0, 1), (1, .aload_n 1, 1), (2, .iload_n 2, 1), (3, .aload_n 0, 1), (4, .getfield 21, 3), (7, .aload_n 1, 1), (8, .aload_n 1, 1), (9, .getfield 205, 3), (12, .ifCond .eq (7), 3), (15, .iconst 2, 1), (16, .goto (4), 3), (19, .iconst 0, 1), (20, .invokevirtual 149, 3), (23, .invokevirtual 216, 3), (26, .return_, 1)]
theorem dd_Ma_let : (ld_Ma_let).all (dOK prog_8_method_7_code) = true := by decide +kernel
theorem d_Ma_let_0 : decode prog_8_method_7_code 0 = .ok (.aload_n 0, 1) := dd_at dd_Ma_let 0 rfl
theorem d_Ma_let_1 : decode prog_8_method_7_code 1 = .ok (.aload_n 1, 1) := dd_at dd_Ma_let 1 rfl
theorem d_Ma_let_2 : decode prog_8_method_7_code 2 = .ok (.iload_n 2, 1) := dd_at dd_Ma_let 2 rfl
theorem d_Ma_let_3 : decode prog_8_method_7_code 3 = .ok (.aload_n 0, 1) := dd_at dd_Ma_let 3 rfl
theorem d_Ma_let_4 : decode prog_8_method_7_code 4 = .ok (.getfield 21, 3) := dd_at dd_Ma_let 4 rfl
theorem d_Ma_let_7 : decode prog_8_method_7_code 7 = .ok (.aload_n 1, 1) := dd_at dd_Ma_let 5 rfl
theorem d_Ma_let_8 : decode prog_8_method_7_code 8 = .ok (.aload_n 1, 1) := dd_at dd_Ma_let 6 rfl
theorem d_Ma_let_9 : decode prog_8_method_7_code 9 = .ok (.getfield 205, 3) := dd_at dd_Ma_let 7 rfl
theorem d_Ma_let_12 : decode prog_8_method_7_code 12 = .ok (.ifCond .eq (7), 3) := dd_at dd_Ma_let 8 rfl
theorem d_Ma_let_15 : decode prog_8_method_7_code 15 = .ok (.iconst 2, 1) := dd_at dd_Ma_let 9 rfl
theorem d_Ma_let_16 : decode prog_8_method_7_code 16 = .ok (.goto (4), 3) := dd_at dd_Ma_let 10 rfl
theorem d_Ma_let_19 : decode prog_8_method_7_code 19 = .ok (.iconst 0, 1) := dd_at dd_Ma_let 11 rfl
theorem d_Ma_let_20 : decode prog_8_method_7_code 20 = .ok (.invokevirtual 149, 3) := dd_at dd_Ma_let 12 rfl
theorem d_Ma_let_23 : decode prog_8_method_7_code 23 = .ok (.invokevirtual 216, 3) := dd_at dd_Ma_let 13 rfl
theorem d_Ma_let_26 : decode prog_8_method_7_code 26 = .ok (.return_, 1) := dd_at dd_Ma_let 14 rfl
def ld_Ma_goIf : List (Nat × Instr × Nat) := [(0, .aload_n 0, 1), (1, .getfield 21, 3), (4, .aload_n 1, 1), (5, .iconst 0, 1), (6, .invokevirtual 149, 3), (9, .dstore_n 2, 1), (10, .aload_n 0, 1), (11, .getfield 21, 3), (14, .aload_n 1, 1), (15, .iconst 1, 1), (16, .invokevirtual 149, 3), (19, .dstore 4, 2), (21, .dload_n 2, 1), (22, .dload 4, 2), (24, .dcmp .g, 1), (25, .ifCond .ge (7), 3), (28, .iconst 1, 1), (29, .goto (15), 3), (32, .dload_n 2, 1), (33, .dload 4, 2), (35, .dcmp .l, 1), (36, .ifCond .le (7), 3), (39, .iconst 4, 1), (40, .goto (4), 3), (43, .iconst 2, 1), (44, .istore 6, 2), (46, .aload_n 0, 1), (47, .getfield 21, 3), (50, .invokevirtual 72, 3), (53, .ifCond .eq (22), 3), (56, .aload_n 1, 1), (57, .getfield 231, 3), (60, .iload 6, 2), (62, .iand, 1), (63, .ifCond .eq (12), 3), (66, .aload_n 0, 1), (67, .aload_n 1, 1), (68, .iconst 0, 1), (69, .invokevirtual 126, 3), (72, .invokevirtual 160, 3), (75, .return_, 1)]
theorem dd_Ma_goIf : (ld_Ma_goIf).all (dOK prog_8_method_12_code) = true := by decide +kernel
theorem d_Ma_goIf_0 : decode prog_8_method_12_code 0 = .ok (.aload_n 0, 1) := dd_at dd_Ma_goIf 0 rfl
theorem d_Ma_goIf_1 : decode prog_8_method_12_code 1 = .ok (.getfield 21, 3) := dd_at dd_Ma_goIf 1 rfl
theorem d_Ma_goIf_4 : decode prog_8_method_12_code 4 = .ok (.aload_n 1, 1) := dd_at dd_Ma_goIf 2 rfl
theorem d_Ma_goIf_5 : decode prog_8_method_12_code 5 = .ok (.iconst 0, 1) := dd_at dd_Ma_goIf 3 rfl
theorem d_Ma_goIf_6 : decode prog_8_method_12_code 6 = .ok (.invokevirtual 149, 3) := dd_at dd_Ma_goIf 4 rfl
theorem d_Ma_goIf_9 : decode prog_8_method_12_code 9 = .ok (.dstore_n 2, 1) := dd_at dd_Ma_goIf 5 rfl
theorem d_Ma_goIf_10 : decode prog_8_method_12_code 10 = .ok (.aload_n 0, 1) := dd_at dd_Ma_goIf 6 rfl
theorem d_Ma_goIf_11 : decode prog_8_method_12_code 11 = .ok (.getfield 21, 3) := dd_at dd_Ma_goIf 7 rfl
theorem d_Ma_goIf_14 : decode prog_8_method_12_code 14 = .ok (.aload_n 1, 1) := dd_at dd_Ma_goIf 8 rfl
theorem d_Ma_goIf_15 : decode prog_8_method_12_code 15 = .ok (.iconst 1, 1) := dd_at dd_Ma_goIf 9 rfl
theorem d_Ma_goIf_16 : decode prog_8_method_12_code 16 = .ok (.invokevirtual 149, 3) := dd_at dd_Ma_goIf 10 rfl
theorem d_Ma_goIf_19 : decode prog_8_method_12_code 19 = .ok (.dstore 4, 2) := dd_at dd_Ma_goIf 11 rfl
theorem d_Ma_goIf_21 : decode prog_8_method_12_code 21 = .ok (.dload_n 2, 1) := dd_at dd_Ma_goIf 12 rfl
theorem d_Ma_goIf_22 : decode prog_8_method_12_code 22 = .ok (.dload 4, 2) := dd_at dd_Ma_goIf 13 rfl
theorem d_Ma_goIf_24 : decode prog_8_method_12_code 24 = .ok (.dcmp .g, 1) := dd_at dd_Ma_goIf 14 rfl
theorem d_Ma_goIf_25 : decode prog_8_method_12_code 25 = .ok (.ifCond .ge (7), 3) := dd_at dd_Ma_goIf 15 rfl
theorem d_Ma_goIf_28 : decode prog_8_method_12_code 28 = .ok (.iconst 1, 1) := dd_at dd_Ma_goIf 16 rfl
theorem d_Ma_goIf_29 : decode prog_8_method_12_code 29 = .ok (.goto (15), 3) := dd_at dd_Ma_goIf 17 rfl
theorem d_Ma_goIf_32 : decode prog_8_method_12_code 32 = .ok (.dload_n 2, 1) := dd_at dd_Ma_goIf 18 rfl
theorem d_Ma_goIf_33 : decode prog_8_method_12_code 33 = .ok (.dload 4, 2) := dd_at dd_Ma_goIf 19 rfl
theorem d_Ma_goIf_35 : decode prog_8_method_12_code 35 = .ok (.dcmp .l, 1) := dd_at dd_Ma_goIf 20 rfl
theorem d_Ma_goIf_36 : decode prog_8_method_12_code 36 = .ok (.ifCond .le (7), 3) := dd_at dd_Ma_goIf 21 rfl
theorem d_Ma_goIf_39 : decode prog_8_method_12_code 39 = .ok (.iconst 4, 1) := dd_at dd_Ma_goIf 22 rfl
theorem d_Ma_goIf_40 : decode prog_8_method_12_code 40 = .ok (.goto (4), 3) := dd_at dd_Ma_goIf 23 rfl
theorem d_Ma_goIf_43 : decode prog_8_method_12_code 43 = .ok (.iconst 2, 1) := dd_at dd_Ma_goIf 24 rfl
theorem d_Ma_goIf_44 : decode prog_8_method_12_code 44 = .ok (.istore 6, 2) := dd_at dd_Ma_goIf 25 rfl
theorem d_Ma_goIf_46 : decode prog_8_method_12_code 46 = .ok (.aload_n 0, 1) := dd_at dd_Ma_goIf 26 rfl
theorem d_Ma_goIf_47 : decode prog_8_method_12_code 47 = .ok (.getfield 21, 3) := dd_at dd_Ma_goIf 27 rfl
theorem d_Ma_goIf_50 : decode prog_8_method_12_code 50 = .ok (.invokevirtual 72, 3) := dd_at dd_Ma_goIf 28 rfl
theorem d_Ma_goIf_53 : decode prog_8_method_12_code 53 = .ok (.ifCond .eq (22), 3) := dd_at dd_Ma_goIf 29 rfl
theorem d_Ma_goIf_56 : decode prog_8_method_12_code 56 = .ok (.aload_n 1, 1) := dd_at dd_Ma_goIf 30 rfl
theorem d_Ma_goIf_57 : decode prog_8_method_12_code 57 = .ok (.getfield 231, 3) := dd_at dd_Ma_goIf 31 rfl
theorem d_Ma_goIf_60 : decode prog_8_method_12_code 60 = .ok (.iload 6, 2) := dd_at dd_Ma_goIf 32 rfl
theorem d_Ma_goIf_62 : decode prog_8_method_12_code 62 = .ok (.iand, 1) := dd_at dd_Ma_goIf 33 rfl
theorem d_Ma_goIf_63 : decode prog_8_method_12_code 63 = .ok (.ifCond .eq (12), 3) := dd_at dd_Ma_goIf 34 rfl
theorem d_Ma_goIf_66 : decode prog_8_method_12_code 66 = .ok (.aload_n 0, 1) := dd_at dd_Ma_goIf 35 rfl
theorem d_Ma_goIf_67 : decode prog_8_method_12_code 67 = .ok (.aload_n 1, 1) := dd_at dd_Ma_goIf 36 rfl
theorem d_Ma_goIf_68 : decode prog_8_method_12_code 68 = .ok (.iconst 0, 1) := dd_at dd_Ma_goIf 37 rfl
theorem d_Ma_goIf_69 : decode prog_8_method_12_code 69 = .ok (.invokevirtual 126, 3) := dd_at dd_Ma_goIf 38 rfl
theorem d_Ma_goIf_72 : decode prog_8_method_12_code 72 = .ok (.invokevirtual 160, 3) := dd_at dd_Ma_goIf 39 rfl
theorem d_Ma_goIf_75 : decode prog_8_method_12_code 75 = .ok (.return_, 1) := dd_at dd_Ma_goIf 40 rfl
def ld_Ma_goToChosen : List (Nat × Instr × Nat) := [(0, .aload_n 0, 1), (1, .getfield 21, 3), (4, .aload_n 1, 1), (5, .iconst 0, 1), (6, .invokevirtual 149, 3), (9, .d2l, 1), (10, .lstore_n 2, 1), (11, .aload_n 0, 1), (12, .getfield 21, 3), (15, .invokevirtual 72, 3), (18, .ifCond .ne (4), 3), (21, .return_, 1), (22, .lload_n 2, 1), (23, .lconst 1, 1), (24, .lcmp, 1), (25, .ifCond .lt (13), 3), (28, .lload_n 2, 1), (29, .aload_n 1, 1), (30, .getfield 123, 3), (33, .i2l, 1), (34, .lcmp, 1), (35, .ifCond .le (14), 3), (38, .aload_n 0, 1), (39, .getfield 21, 3), (42, .getstatic 234, 3), (45, .invokevirtual 82, 3), (48, .return_, 1), (49, .aload_n 0, 1), (50, .aload_n 1, 1), (51, .lload_n 2, 1), (52, .l2i, 1), (53, .iconst 1, 1), (54, .isub, 1), (55, .invokevirtual 126, 3), (58, .invokevirtual 160, 3), (61, .return_, 1)]
theorem dd_Ma_goToChosen : (ld_Ma_goToChosen).all (dOK prog_8_method_13_code) = true := by decide +kernel
theorem d_Ma_goToChosen_0 : decode prog_8_method_13_code 0 = .ok (.aload_n 0, 1) := dd_at dd_Ma_goToChosen 0 rfl
theorem d_Ma_goToChosen_1 : decode prog_8_method_13_code 1 = .ok (.getfield 21, 3) := dd_at dd_Ma_goToChosen 1 rfl
theorem d_Ma_goToChosen_4 : decode prog_8_method_13_code 4 = .ok (.aload_n 1, 1) := dd_at dd_Ma_goToChosen 2 rfl
theorem d_Ma_goToChosen_5 : decode prog_8_method_13_code 5 = .ok (.iconst 0, 1) := dd_at dd_Ma_goToChosen 3 rfl
theorem d_Ma_goToChosen_6 : decode prog_8_method_13_code 6 = .ok (.invokevirtual 149, 3) := dd_at dd_Ma_goToChosen 4 rfl
theorem d_Ma_goToChosen_9 : decode prog_8_method_13_code 9 = .ok (.d2l, 1) := dd_at dd_Ma_goToChosen 5 rfl
theorem d_Ma_goToChosen_10 : decode prog_8_method_13_code 10 = .ok (.lstore_n 2, 1) := dd_at dd_Ma_goToChosen 6 rfl
theorem d_Ma_goToChosen_11 : decode prog_8_method_13_code 11 = .ok (.aload_n 0, 1) := dd_at dd_Ma_goToChosen 7 rfl
theorem d_Ma_goToChosen_12 : decode prog_8_method_13_code 12 = .ok (.getfield 21, 3) := dd_at dd_Ma_goToChosen 8 rfl
theorem d_Ma_goToChosen_15 : decode prog_8_method_13_code 15 = .ok (.invokevirtual 72, 3) := dd_at dd_Ma_goToChosen 9 rfl
theorem d_Ma_goToChosen_18 : decode prog_8_method_13_code 18 = .ok (.ifCond .ne (4), 3) := dd_at dd_Ma_goToChosen 10 rfl
theorem d_Ma_goToChosen_21 : decode prog_8_method_13_code 21 = .ok (.return_, 1) := dd_at dd_Ma_goToChosen 11 rfl
theorem d_Ma_goToChosen_22 : decode prog_8_method_13_code 22 = .ok (.lload_n 2, 1) := dd_at dd_Ma_goToChosen 12 rfl
theorem d_Ma_goToChosen_23 : decode prog_8_method_13_code 23 = .ok (.lconst 1, 1) := dd_at dd_Ma_goToChosen 13 rfl
theorem d_Ma_goToChosen_24 : decode prog_8_method_13_code 24 = .ok (.lcmp, 1) := dd_at dd_Ma_goToChosen 14 rfl
theorem d_Ma_goToChosen_25 : decode prog_8_method_13_code 25 = .ok (.ifCond .lt (13), 3) := dd_at dd_Ma_goToChosen 15 rfl
theorem d_Ma_goToChosen_28 : decode prog_8_method_13_code 28 = .ok (.lload_n 2, 1) := dd_at dd_Ma_goToChosen 16 rfl
theorem d_Ma_goToChosen_29 : decode prog_8_method_13_code 29 = .ok (.aload_n 1, 1) := dd_at dd_Ma_goToChosen 17 rfl
theorem d_Ma_goToChosen_30 : decode prog_8_method_13_code 30 = .ok (.getfield 123, 3) := dd_at dd_Ma_goToChosen 18 rfl
theorem d_Ma_goToChosen_33 : decode prog_8_method_13_code 33 = .ok (.i2l, 1) := dd_at dd_Ma_goToChosen 19 rfl
theorem d_Ma_goToChosen_34 : decode prog_8_method_13_code 34 = .ok (.lcmp, 1) := dd_at dd_Ma_goToChosen 20 rfl
theorem d_Ma_goToChosen_35 : decode prog_8_method_13_code 35 = .ok (.ifCond .le (14), 3) := dd_at dd_Ma_goToChosen 21 rfl
theorem d_Ma_goToChosen_38 : decode prog_8_method_13_code 38 = .ok (.aload_n 0, 1) := dd_at dd_Ma_goToChosen 22 rfl
theorem d_Ma_goToChosen_39 : decode prog_8_method_13_code 39 = .ok (.getfield 21, 3) := dd_at dd_Ma_goToChosen 23 rfl
theorem d_Ma_goToChosen_42 : decode prog_8_method_13_code 42 = .ok (.getstatic 234, 3) := dd_at dd_Ma_goToChosen 24 rfl
theorem d_Ma_goToChosen_45 : decode prog_8_method_13_code 45 = .ok (.invokevirtual 82, 3) := dd_at dd_Ma_goToChosen 25 rfl
theorem d_Ma_goToChosen_48 : decode prog_8_method_13_code 48 = .ok (.return_, 1) := dd_at dd_Ma_goToChosen 26 rfl
theorem d_Ma_goToChosen_49 : decode prog_8_method_13_code 49 = .ok (.aload_n 0, 1) := dd_at dd_Ma_goToChosen 27 rfl
theorem d_Ma_goToChosen_50 : decode prog_8_method_13_code 50 = .ok (.aload_n 1, 1) := dd_at dd_Ma_goToChosen 28 rfl
theorem d_Ma_goToChosen_51 : decode prog_8_method_13_code 51 = .ok (.lload_n 2, 1) := dd_at dd_Ma_goToChosen 29 rfl
theorem d_Ma_goToChosen_52 : decode prog_8_method_13_code 52 = .ok (.l2i, 1) := dd_at dd_Ma_goToChosen 30 rfl
theorem d_Ma_goToChosen_53 : decode prog_8_method_13_code 53 = .ok (.iconst 1, 1) := dd_at dd_Ma_goToChosen 31 rfl
theorem d_Ma_goToChosen_54 : decode prog_8_method_13_code 54 = .ok (.isub, 1) := dd_at dd_Ma_goToChosen 32 rfl
theorem d_Ma_goToChosen_55 : decode prog_8_method_13_code 55 = .ok (.invokevirtual 126, 3) := dd_at dd_Ma_goToChosen 33 rfl
theorem d_Ma_goToChosen_58 : decode prog_8_method_13_code 58 = .ok (.invokevirtual 160, 3) := dd_at dd_Ma_goToChosen 34 rfl
theorem d_Ma_goToChosen_61 : decode prog_8_method_13_code 61 = .ok (.return_, 1) := dd_at dd_Ma_goToChosen 35 rfl
def ld_Ma_beginLoop : List (Nat × Instr × Nat) := [(0, .aload_n 0, 1), (1, .getfield 21, 3), (4, .aload_n 1, 1), (5, .iconst 0, 1), (6, .invokevirtual 149, 3), (9, .dstore_n 2, 1), (10, .aload_n 0, 1), (11, .getfield 21, 3), (14, .aload_n 1, 1), (15, .iconst 1, 1), (16, .invokevirtual 149, 3), (19, .dstore 4, 2), (21, .aload_n 1, 1), (22, .getfield 237, 3), (25, .iconst 2, 1), (26, .if_icmp .le (15), 3), (29, .aload_n 0, 1), (30, .getfield 21, 3), (33, .aload_n 1, 1), (34, .iconst 2, 1), (35, .invokevirtual 149, 3), (38, .goto (4), 3), (41, .dconst 1, 1), (42, .dstore 6, 2), (44, .aload_n 0, 1), (45, .getfield 21, 3), (48, .invokevirtual 72, 3), (51, .ifCond .ne (4), 3), (54, .return_, 1), (55, .aload_n 0, 1), (56, .getfield 28, 3), (59, .aload_n 1, 1), (60, .getfield 176, 3), (63, .invokevirtual 240, 3), (66, .istore 8, 2), (68, .aload_n 0, 1), (69, .getfield 28, 3), (72, .iload 8, 2), (74, .ifCond .ge (13), 3), (77, .aload_n 0, 1), (78, .getfield 28, 3), (81, .getfield 95, 3), (84, .goto (5), 3), (87, .iload 8, 2), (89, .putfield 95, 3), (92, .aload_n 0, 1), (93, .getfield 21, 3), (96, .aload_n 1, 1), (97, .getfield 176, 3), (100, .dload_n 2, 1), (101, .invokevirtual 227, 3), (104, .dload_n 2, 1), (105, .dload 4, 2), (107, .dload 6, 2), (109, .invokestatic 241, 3), (112, .ifCond .eq (14), 3), (115, .aload_n 0, 1), (116, .aload_n 1, 1), (117, .getfield 176, 3), (120, .invokevirtual 245, 3), (123, .goto (35), 3), (126, .aload_n 0, 1), (127, .getfield 28, 3), (130, .aload_n 1, 1), (131, .getfield 176, 3), (134, .aload_n 0, 1), (135, .getfield 65, 3), (138, .dload 4, 2), (140, .dload 6, 2), (142, .invokevirtual 248, 3), (145, .ifCond .ne (13), 3), (148, .aload_n 0, 1), (149, .getfield 21, 3), (152, .getstatic 76, 3), (155, .invokevirtual 82, 3), (158, .return_, 1)]
theorem dd_Ma_beginLoop : (ld_Ma_beginLoop).all (dOK prog_8_method_16_code) = true := by decide +kernel
theorem d_Ma_beginLoop_0 : decode prog_8_method_16_code 0 = .ok (.aload_n 0, 1) := dd_at dd_Ma_beginLoop 0 rfl
theorem d_Ma_beginLoop_1 : decode prog_8_method_16_code 1 = .ok (.getfield 21, 3) := dd_at dd_Ma_beginLoop 1 rfl
theorem d_Ma_beginLoop_4 : decode prog_8_method_16_code 4 = .ok (.aload_n 1, 1) := dd_at dd_Ma_beginLoop 2 rfl
theorem d_Ma_beginLoop_5 : decode prog_8_method_16_code 5 = .ok (.iconst 0, 1) := dd_at dd_Ma_beginLoop 3 rfl
theorem d_Ma_beginLoop_6 : decode prog_8_method_16_code 6 = .ok (.invokevirtual 149, 3) := dd_at dd_Ma_beginLoop 4 rfl
theorem d_Ma_beginLoop_9 : decode prog_8_method_16_code 9 = .ok (.dstore_n 2, 1) := dd_at dd_Ma_beginLoop 5 rfl
theorem d_Ma_beginLoop_10 : decode prog_8_method_16_code 10 = .ok (.aload_n 0, 1) := dd_at dd_Ma_beginLoop 6 rfl
theorem d_Ma_beginLoop_11 : decode prog_8_method_16_code 11 = .ok (.getfield 21, 3) := dd_at dd_Ma_beginLoop 7 rfl
theorem d_Ma_beginLoop_14 : decode prog_8_method_16_code 14 = .ok (.aload_n 1, 1) := dd_at dd_Ma_beginLoop 8 rfl
theorem d_Ma_beginLoop_15 : decode prog_8_method_16_code 15 = .ok (.iconst 1, 1) := dd_at dd_Ma_beginLoop 9 rfl
theorem d_Ma_beginLoop_16 : decode prog_8_method_16_code 16 = .ok (.invokevirtual 149, 3) := dd_at dd_Ma_beginLoop 10 rfl
theorem d_Ma_beginLoop_19 : decode prog_8_method_16_code 19 = .ok (.dstore 4, 2) := dd_at dd_Ma_beginLoop 11 rfl
theorem d_Ma_beginLoop_21 : decode prog_8_method_16_code 21 = .ok (.aload_n 1, 1) := dd_at dd_Ma_beginLoop 12 rfl
theorem d_Ma_beginLoop_22 : decode prog_8_method_16_code 22 = .ok (.getfield 237, 3) := dd_at dd_Ma_beginLoop 13 rfl
theorem d_Ma_beginLoop_25 : decode prog_8_method_16_code 25 = .ok (.iconst 2, 1) := dd_at dd_Ma_beginLoop 14 rfl
theorem d_Ma_beginLoop_26 : decode prog_8_method_16_code 26 = .ok (.if_icmp .le (15), 3) := dd_at dd_Ma_beginLoop 15 rfl
theorem d_Ma_beginLoop_29 : decode prog_8_method_16_code 29 = .ok (.aload_n 0, 1) := dd_at dd_Ma_beginLoop 16 rfl
theorem d_Ma_beginLoop_30 : decode prog_8_method_16_code 30 = .ok (.getfield 21, 3) := dd_at dd_Ma_beginLoop 17 rfl
theorem d_Ma_beginLoop_33 : decode prog_8_method_16_code 33 = .ok (.aload_n 1, 1) := dd_at dd_Ma_beginLoop 18 rfl
theorem d_Ma_beginLoop_34 : decode prog_8_method_16_code 34 = .ok (.iconst 2, 1) := dd_at dd_Ma_beginLoop 19 rfl
theorem d_Ma_beginLoop_35 : decode prog_8_method_16_code 35 = .ok (.invokevirtual 149, 3) := dd_at dd_Ma_beginLoop 20 rfl
theorem d_Ma_beginLoop_38 : decode prog_8_method_16_code 38 = .ok (.goto (4), 3) := dd_at dd_Ma_beginLoop 21 rfl
theorem d_Ma_beginLoop_41 : decode prog_8_method_16_code 41 = .ok (.dconst 1, 1) := dd_at dd_Ma_beginLoop 22 rfl
theorem d_Ma_beginLoop_42 : decode prog_8_method_16_code 42 = .ok (.dstore 6, 2) := dd_at dd_Ma_beginLoop 23 rfl
theorem d_Ma_beginLoop_44 : decode prog_8_method_16_code 44 = .ok (.aload_n 0, 1) := dd_at dd_Ma_beginLoop 24 rfl
theorem d_Ma_beginLoop_45 : decode prog_8_method_16_code 45 = .ok (.getfield 21, 3) := dd_at dd_Ma_beginLoop 25 rfl
theorem d_Ma_beginLoop_48 : decode prog_8_method_16_code 48 = .ok (.invokevirtual 72, 3) := dd_at dd_Ma_beginLoop 26 rfl
theorem d_Ma_beginLoop_51 : decode prog_8_method_16_code 51 = .ok (.ifCond .ne (4), 3) := dd_at dd_Ma_beginLoop 27 rfl
theorem d_Ma_beginLoop_54 : decode prog_8_method_16_code 54 = .ok (.return_, 1) := dd_at dd_Ma_beginLoop 28 rfl
theorem d_Ma_beginLoop_55 : decode prog_8_method_16_code 55 = .ok (.aload_n 0, 1) := dd_at dd_Ma_beginLoop 29 rfl
theorem d_Ma_beginLoop_56 : decode prog_8_method_16_code 56 = .ok (.getfield 28, 3) := dd_at dd_Ma_beginLoop 30 rfl
theorem d_Ma_beginLoop_59 : decode prog_8_method_16_code 59 = .ok (.aload_n 1, 1) := dd_at dd_Ma_beginLoop 31 rfl
theorem d_Ma_beginLoop_60 : decode prog_8_method_16_code 60 = .ok (.getfield 176, 3) := dd_at dd_Ma_beginLoop 32 rfl
theorem d_Ma_beginLoop_63 : decode prog_8_method_16_code 63 = .ok (.invokevirtual 240, 3) := dd_at dd_Ma_beginLoop 33 rfl
theorem d_Ma_beginLoop_66 : decode prog_8_method_16_code 66 = .ok (.istore 8, 2) := dd_at dd_Ma_beginLoop 34 rfl
theorem d_Ma_beginLoop_68 : decode prog_8_method_16_code 68 = .ok (.aload_n 0, 1) := dd_at dd_Ma_beginLoop 35 rfl
theorem d_Ma_beginLoop_69 : decode prog_8_method_16_code 69 = .ok (.getfield 28, 3) := dd_at dd_Ma_beginLoop 36 rfl
theorem d_Ma_beginLoop_72 : decode prog_8_method_16_code 72 = .ok (.iload 8, 2) := dd_at dd_Ma_beginLoop 37 rfl
theorem d_Ma_beginLoop_74 : decode prog_8_method_16_code 74 = .ok (.ifCond .ge (13), 3) := dd_at dd_Ma_beginLoop 38 rfl
theorem d_Ma_beginLoop_77 : decode prog_8_method_16_code 77 = .ok (.aload_n 0, 1) := dd_at dd_Ma_beginLoop 39 rfl
theorem d_Ma_beginLoop_78 : decode prog_8_method_16_code 78 = .ok (.getfield 28, 3) := dd_at dd_Ma_beginLoop 40 rfl
theorem d_Ma_beginLoop_81 : decode prog_8_method_16_code 81 = .ok (.getfield 95, 3) := dd_at dd_Ma_beginLoop 41 rfl
theorem d_Ma_beginLoop_84 : decode prog_8_method_16_code 84 = .ok (.goto (5), 3) := dd_at dd_Ma_beginLoop 42 rfl
theorem d_Ma_beginLoop_87 : decode prog_8_method_16_code 87 = .ok (.iload 8, 2) := dd_at dd_Ma_beginLoop 43 rfl
theorem d_Ma_beginLoop_89 : decode prog_8_method_16_code 89 = .ok (.putfield 95, 3) := dd_at dd_Ma_beginLoop 44 rfl
theorem d_Ma_beginLoop_92 : decode prog_8_method_16_code 92 = .ok (.aload_n 0, 1) := dd_at dd_Ma_beginLoop 45 rfl
theorem d_Ma_beginLoop_93 : decode prog_8_method_16_code 93 = .ok (.getfield 21, 3) := dd_at dd_Ma_beginLoop 46 rfl
theorem d_Ma_beginLoop_96 : decode prog_8_method_16_code 96 = .ok (.aload_n 1, 1) := dd_at dd_Ma_beginLoop 47 rfl
theorem d_Ma_beginLoop_97 : decode prog_8_method_16_code 97 = .ok (.getfield 176, 3) := dd_at dd_Ma_beginLoop 48 rfl
theorem d_Ma_beginLoop_100 : decode prog_8_method_16_code 100 = .ok (.dload_n 2, 1) := dd_at dd_Ma_beginLoop 49 rfl
theorem d_Ma_beginLoop_101 : decode prog_8_method_16_code 101 = .ok (.invokevirtual 227, 3) := dd_at dd_Ma_beginLoop 50 rfl
theorem d_Ma_beginLoop_104 : decode prog_8_method_16_code 104 = .ok (.dload_n 2, 1) := dd_at dd_Ma_beginLoop 51 rfl
theorem d_Ma_beginLoop_105 : decode prog_8_method_16_code 105 = .ok (.dload 4, 2) := dd_at dd_Ma_beginLoop 52 rfl
theorem d_Ma_beginLoop_107 : decode prog_8_method_16_code 107 = .ok (.dload 6, 2) := dd_at dd_Ma_beginLoop 53 rfl
theorem d_Ma_beginLoop_109 : decode prog_8_method_16_code 109 = .ok (.invokestatic 241, 3) := dd_at dd_Ma_beginLoop 54 rfl
theorem d_Ma_beginLoop_112 : decode prog_8_method_16_code 112 = .ok (.ifCond .eq (14), 3) := dd_at dd_Ma_beginLoop 55 rfl
theorem d_Ma_beginLoop_115 : decode prog_8_method_16_code 115 = .ok (.aload_n 0, 1) := dd_at dd_Ma_beginLoop 56 rfl
theorem d_Ma_beginLoop_116 : decode prog_8_method_16_code 116 = .ok (.aload_n 1, 1) := dd_at dd_Ma_beginLoop 57 rfl
theorem d_Ma_beginLoop_117 : decode prog_8_method_16_code 117 = .ok (.getfield 176, 3) := dd_at dd_Ma_beginLoop 58 rfl
theorem d_Ma_beginLoop_120 : decode prog_8_method_16_code 120 = .ok (.invokevirtual 245, 3) := dd_at dd_Ma_beginLoop 59 rfl
theorem d_Ma_beginLoop_123 : decode prog_8_method_16_code 123 = .ok (.goto (35), 3) := dd_at dd_Ma_beginLoop 60 rfl
theorem d_Ma_beginLoop_126 : decode prog_8_method_16_code 126 = .ok (.aload_n 0, 1) := dd_at dd_Ma_beginLoop 61 rfl
theorem d_Ma_beginLoop_127 : decode prog_8_method_16_code 127 = .ok (.getfield 28, 3) := dd_at dd_Ma_beginLoop 62 rfl
theorem d_Ma_beginLoop_130 : decode prog_8_method_16_code 130 = .ok (.aload_n 1, 1) := dd_at dd_Ma_beginLoop 63 rfl
theorem d_Ma_beginLoop_131 : decode prog_8_method_16_code 131 = .ok (.getfield 176, 3) := dd_at dd_Ma_beginLoop 64 rfl
theorem d_Ma_beginLoop_134 : decode prog_8_method_16_code 134 = .ok (.aload_n 0, 1) := dd_at dd_Ma_beginLoop 65 rfl
theorem d_Ma_beginLoop_135 : decode prog_8_method_16_code 135 = .ok (.getfield 65, 3) := dd_at dd_Ma_beginLoop 66 rfl
theorem d_Ma_beginLoop_138 : decode prog_8_method_16_code 138 = .ok (.dload 4, 2) := dd_at dd_Ma_beginLoop 67 rfl
theorem d_Ma_beginLoop_140 : decode prog_8_method_16_code 140 = .ok (.dload 6, 2) := dd_at dd_Ma_beginLoop 68 rfl
theorem d_Ma_beginLoop_142 : decode prog_8_method_16_code 142 = .ok (.invokevirtual 248, 3) := dd_at dd_Ma_beginLoop 69 rfl
theorem d_Ma_beginLoop_145 : decode prog_8_method_16_code 145 = .ok (.ifCond .ne (13), 3) := dd_at dd_Ma_beginLoop 70 rfl
theorem d_Ma_beginLoop_148 : decode prog_8_method_16_code 148 = .ok (.aload_n 0, 1) := dd_at dd_Ma_beginLoop 71 rfl
theorem d_Ma_beginLoop_149 : decode prog_8_method_16_code 149 = .ok (.getfield 21, 3) := dd_at dd_Ma_beginLoop 72 rfl
theorem d_Ma_beginLoop_152 : decode prog_8_method_16_code 152 = .ok (.getstatic 76, 3) := dd_at dd_Ma_beginLoop 73 rfl
theorem d_Ma_beginLoop_155 : decode prog_8_method_16_code 155 = .ok (.invokevirtual 82, 3) := dd_at dd_Ma_beginLoop 74 rfl
theorem d_Ma_beginLoop_158 : decode prog_8_method_16_code 158 = .ok (.return_, 1) := dd_at dd_Ma_beginLoop 75 rfl
def ld_Pa_part : List (Nat × Instr × Nat) := [(0, .aload_n 0, 1), (1, .invokevirtual 157, 3), (4, .istore_n 1, 1), (5, .iload_n 1, 1), (6, .invokestatic 160, 3), (9, .ifCond .eq (28), 3), (12, .aload_n 0, 1), (13, .invokevirtual 171, 3), (16, .ifCond .eq (19), 3), (19, .aload_n 0, 1), (20, .iconst 0, 1), (21, .aload_n 0, 1), (22, .getfield 40, 3), (25, .invokevirtual 259, 3), (28, .ifCond .eq (7), 3), (31, .iconst 1, 1), (32, .goto (4), 3), (35, .iconst 0, 1), (36, .ireturn, 1), (37, .iload_n 1, 1), (38, .bipush (40), 2), (40, .if_icmp .ne (8), 3), (43, .aload_n 0, 1), (44, .invokevirtual 269, 3), (47, .ireturn, 1), (48, .iload_n 1, 1), (49, .invokestatic 180, 3), (52, .ifCond .eq (12), 3), (55, .aload_n 0, 1), (56, .iload_n 1, 1), (57, .bipush (80), 2), (59, .isub, 1), (60, .invokevirtual 272, 3), (63, .ireturn, 1), (64, .aload_n 0, 1), (65, .invokevirtual 275, 3), (68, .ifCond .eq (9), 3), (71, .aload_n 0, 1), (72, .iload_n 1, 1), (73, .invokevirtual 278, 3), (76, .ireturn, 1), (77, .iload_n 1, 1), (78, .invokestatic 174, 3), (81, .ifCond .ne (5), 3), (84, .iconst 0, 1), (85, .ireturn, 1), (86, .aload_n 0, 1), (87, .dup, 1), (88, .getfield 26, 3), (91, .iconst 1, 1), (92, .iadd, 1), (93, .putfield 26, 3), (96, .aload_n 0, 1), (97, .iconst 1, 1), (98, .iload_n 1, 1), (99, .bipush (65), 2), (101, .isub, 1), (102, .invokevirtual 259, 3), (105, .ireturn, 1)]
theorem dd_Pa_part : (ld_Pa_part).all (dOK prog_10_method_33_code) = true := by decide +kernel
theorem d_Pa_part_0 : decode prog_10_method_33_code 0 = .ok (.aload_n 0, 1) := dd_at dd_Pa_part 0 rfl
theorem d_Pa_part_1 : decode prog_10_method_33_code 1 = .ok (.invokevirtual 157, 3) := dd_at dd_Pa_part 1 rfl
theorem d_Pa_part_4 : decode prog_10_method_33_code 4 = .ok (.istore_n 1, 1) := dd_at dd_Pa_part 2 rfl
theorem d_Pa_part_5 : decode prog_10_method_33_code 5 = .ok (.iload_n 1, 1) := dd_at dd_Pa_part 3 rfl
theorem d_Pa_part_6 : decode prog_10_method_33_code 6 = .ok (.invokestatic 160, 3) := dd_at dd_Pa_part 4 rfl
theorem d_Pa_part_9 : decode prog_10_method_33_code 9 = .ok (.ifCond .eq (28), 3) := dd_at dd_Pa_part 5 rfl
theorem d_Pa_part_12 : decode prog_10_method_33_code 12 = .ok (.aload_n 0, 1) := dd_at dd_Pa_part 6 rfl
theorem d_Pa_part_13 : decode prog_10_method_33_code 13 = .ok (.invokevirtual 171, 3) := dd_at dd_Pa_part 7 rfl
theorem d_Pa_part_16 : decode prog_10_method_33_code 16 = .ok (.ifCond .eq (19), 3) := dd_at dd_Pa_part 8 rfl
theorem d_Pa_part_19 : decode prog_10_method_33_code 19 = .ok (.aload_n 0, 1) := dd_at dd_Pa_part 9 rfl
theorem d_Pa_part_20 : decode prog_10_method_33_code 20 = .ok (.iconst 0, 1) := dd_at dd_Pa_part 10 rfl
theorem d_Pa_part_21 : decode prog_10_method_33_code 21 = .ok (.aload_n 0, 1) := dd_at dd_Pa_part 11 rfl
theorem d_Pa_part_22 : decode prog_10_method_33_code 22 = .ok (.getfield 40, 3) := dd_at dd_Pa_part 12 rfl
theorem d_Pa_part_25 : decode prog_10_method_33_code 25 = .ok (.invokevirtual 259, 3) := dd_at dd_Pa_part 13 rfl
theorem d_Pa_part_28 : decode prog_10_method_33_code 28 = .ok (.ifCond .eq (7), 3) := dd_at dd_Pa_part 14 rfl
theorem d_Pa_part_31 : decode prog_10_method_33_code 31 = .ok (.iconst 1, 1) := dd_at dd_Pa_part 15 rfl
theorem d_Pa_part_32 : decode prog_10_method_33_code 32 = .ok (.goto (4), 3) := dd_at dd_Pa_part 16 rfl
theorem d_Pa_part_35 : decode prog_10_method_33_code 35 = .ok (.iconst 0, 1) := dd_at dd_Pa_part 17 rfl
theorem d_Pa_part_36 : decode prog_10_method_33_code 36 = .ok (.ireturn, 1) := dd_at dd_Pa_part 18 rfl
theorem d_Pa_part_37 : decode prog_10_method_33_code 37 = .ok (.iload_n 1, 1) := dd_at dd_Pa_part 19 rfl
theorem d_Pa_part_38 : decode prog_10_method_33_code 38 = .ok (.bipush (40), 2) := dd_at dd_Pa_part 20 rfl
theorem d_Pa_part_40 : decode prog_10_method_33_code 40 = .ok (.if_icmp .ne (8), 3) := dd_at dd_Pa_part 21 rfl
theorem d_Pa_part_43 : decode prog_10_method_33_code 43 = .ok (.aload_n 0, 1) := dd_at dd_Pa_part 22 rfl
theorem d_Pa_part_44 : decode prog_10_method_33_code 44 = .ok (.invokevirtual 269, 3) := dd_at dd_Pa_part 23 rfl
theorem d_Pa_part_47 : decode prog_10_method_33_code 47 = .ok (.ireturn, 1) := dd_at dd_Pa_part 24 rfl
theorem d_Pa_part_48 : decode prog_10_method_33_code 48 = .ok (.iload_n 1, 1) := dd_at dd_Pa_part 25 rfl
theorem d_Pa_part_49 : decode prog_10_method_33_code 49 = .ok (.invokestatic 180, 3) := dd_at dd_Pa_part 26 rfl
theorem d_Pa_part_52 : decode prog_10_method_33_code 52 = .ok (.ifCond .eq (12), 3) := dd_at dd_Pa_part 27 rfl
theorem d_Pa_part_55 : decode prog_10_method_33_code 55 = .ok (.aload_n 0, 1) := dd_at dd_Pa_part 28 rfl
theorem d_Pa_part_56 : decode prog_10_method_33_code 56 = .ok (.iload_n 1, 1) := dd_at dd_Pa_part 29 rfl
theorem d_Pa_part_57 : decode prog_10_method_33_code 57 = .ok (.bipush (80), 2) := dd_at dd_Pa_part 30 rfl
theorem d_Pa_part_59 : decode prog_10_method_33_code 59 = .ok (.isub, 1) := dd_at dd_Pa_part 31 rfl
theorem d_Pa_part_60 : decode prog_10_method_33_code 60 = .ok (.invokevirtual 272, 3) := dd_at dd_Pa_part 32 rfl
theorem d_Pa_part_63 : decode prog_10_method_33_code 63 = .ok (.ireturn, 1) := dd_at dd_Pa_part 33 rfl
theorem d_Pa_part_64 : decode prog_10_method_33_code 64 = .ok (.aload_n 0, 1) := dd_at dd_Pa_part 34 rfl
theorem d_Pa_part_65 : decode prog_10_method_33_code 65 = .ok (.invokevirtual 275, 3) := dd_at dd_Pa_part 35 rfl
theorem d_Pa_part_68 : decode prog_10_method_33_code 68 = .ok (.ifCond .eq (9), 3) := dd_at dd_Pa_part 36 rfl
theorem d_Pa_part_71 : decode prog_10_method_33_code 71 = .ok (.aload_n 0, 1) := dd_at dd_Pa_part 37 rfl
theorem d_Pa_part_72 : decode prog_10_method_33_code 72 = .ok (.iload_n 1, 1) := dd_at dd_Pa_part 38 rfl
theorem d_Pa_part_73 : decode prog_10_method_33_code 73 = .ok (.invokevirtual 278, 3) := dd_at dd_Pa_part 39 rfl
theorem d_Pa_part_76 : decode prog_10_method_33_code 76 = .ok (.ireturn, 1) := dd_at dd_Pa_part 40 rfl
theorem d_Pa_part_77 : decode prog_10_method_33_code 77 = .ok (.iload_n 1, 1) := dd_at dd_Pa_part 41 rfl
theorem d_Pa_part_78 : decode prog_10_method_33_code 78 = .ok (.invokestatic 174, 3) := dd_at dd_Pa_part 42 rfl
theorem d_Pa_part_81 : decode prog_10_method_33_code 81 = .ok (.ifCond .ne (5), 3) := dd_at dd_Pa_part 43 rfl
theorem d_Pa_part_84 : decode prog_10_method_33_code 84 = .ok (.iconst 0, 1) := dd_at dd_Pa_part 44 rfl
theorem d_Pa_part_85 : decode prog_10_method_33_code 85 = .ok (.ireturn, 1) := dd_at dd_Pa_part 45 rfl
theorem d_Pa_part_86 : decode prog_10_method_33_code 86 = .ok (.aload_n 0, 1) := dd_at dd_Pa_part 46 rfl
theorem d_Pa_part_87 : decode prog_10_method_33_code 87 = .ok (.dup, 1) := dd_at dd_Pa_part 47 rfl
theorem d_Pa_part_88 : decode prog_10_method_33_code 88 = .ok (.getfield 26, 3) := dd_at dd_Pa_part 48 rfl
theorem d_Pa_part_91 : decode prog_10_method_33_code 91 = .ok (.iconst 1, 1) := dd_at dd_Pa_part 49 rfl
theorem d_Pa_part_92 : decode prog_10_method_33_code 92 = .ok (.iadd, 1) := dd_at dd_Pa_part 50 rfl
theorem d_Pa_part_93 : decode prog_10_method_33_code 93 = .ok (.putfield 26, 3) := dd_at dd_Pa_part 51 rfl
theorem d_Pa_part_96 : decode prog_10_method_33_code 96 = .ok (.aload_n 0, 1) := dd_at dd_Pa_part 52 rfl
theorem d_Pa_part_97 : decode prog_10_method_33_code 97 = .ok (.iconst 1, 1) := dd_at dd_Pa_part 53 rfl
theorem d_Pa_part_98 : decode prog_10_method_33_code 98 = .ok (.iload_n 1, 1) := dd_at dd_Pa_part 54 rfl
theorem d_Pa_part_99 : decode prog_10_method_33_code 99 = .ok (.bipush (65), 2) := dd_at dd_Pa_part 55 rfl
theorem d_Pa_part_101 : decode prog_10_method_33_code 101 = .ok (.isub, 1) := dd_at dd_Pa_part 56 rfl
theorem d_Pa_part_102 : decode prog_10_method_33_code 102 = .ok (.invokevirtual 259, 3) := dd_at dd_Pa_part 57 rfl
theorem d_Pa_part_105 : decode prog_10_method_33_code 105 = .ok (.ireturn, 1) := dd_at dd_Pa_part 58 rfl
def ld_Ma_perform : List (Nat × Instr × Nat) := [(0, .getstatic 132, 3), (3, .aload_n 1, 1), (4, .getfield 114, 3), (7, .invokevirtual 137, 3), (10, .iaload, 1), (11, .tableswitch (264) (1) (17) #[(81), (94), (110), (118), (130), (138), (157), (165), (176), (264), (197), (224), (239), (264), (150), (189), (250)], 81), (92, .aload_n 0, 1), (93, .aload_n 1, 1), (94, .aload_n 0, 1), (95, .aload_n 1, 1), (96, .invokevirtual 141, 3), (99, .invokevirtual 145, 3), (102, .goto (173), 3), (105, .aload_n 0, 1), (106, .aload_n 0, 1), (107, .getfield 21, 3), (110, .aload_n 1, 1), (111, .iconst 0, 1), (112, .invokevirtual 149, 3), (115, .invokevirtual 153, 3), (118, .goto (157), 3), (121, .aload_n 0, 1), (122, .aload_n 1, 1), (123, .invokevirtual 157, 3), (126, .goto (149), 3), (129, .aload_n 0, 1), (130, .aload_n 1, 1), (131, .iconst 0, 1), (132, .invokevirtual 126, 3), (135, .invokevirtual 160, 3), (138, .goto (137), 3), (141, .aload_n 0, 1), (142, .aload_n 1, 1), (143, .invokevirtual 164, 3), (146, .goto (129), 3), (149, .aload_n 0, 1), (150, .aload_n 1, 1), (151, .iconst 0, 1), (152, .invokevirtual 126, 3), (155, .invokevirtual 167, 3), (158, .goto (117), 3), (161, .aload_n 0, 1), (162, .invokevirtual 170, 3), (165, .goto (110), 3), (168, .aload_n 0, 1), (169, .aload_n 1, 1), (170, .invokevirtual 173, 3), (173, .goto (102), 3), (176, .aload_n 0, 1), (177, .aload_n 1, 1), (178, .getfield 176, 3), (181, .invokevirtual 179, 3), (184, .goto (91), 3), (187, .aload_n 0, 1), (188, .aload_n 1, 1), (189, .aload_n 0, 1), (190, .aload_n 1, 1), (191, .invokevirtual 141, 3), (194, .invokevirtual 182, 3), (197, .goto (78), 3), (200, .aload_n 0, 1), (201, .iconst 0, 1), (202, .putfield 107, 3), (205, .goto (70), 3), (208, .aload_n 0, 1), (209, .getfield 21, 3), (212, .aload_n 1, 1), (213, .getfield 176, 3), (216, .invokevirtual 185, 3), (219, .aload_n 1, 1), (220, .iconst 0, 1), (221, .invokevirtual 126, 3), (224, .aload_n 1, 1), (225, .iconst 1, 1), (226, .invokevirtual 126, 3), (229, .invokevirtual 189, 3), (232, .goto (43), 3), (235, .aload_n 0, 1), (236, .getfield 21, 3), (239, .aload_n 1, 1), (240, .getfield 195, 3), (243, .aload_n 1, 1), (244, .invokevirtual 198, 3), (247, .goto (28), 3), (250, .aload_n 0, 1), (251, .getfield 21, 3), (254, .aload_n 1, 1), (255, .invokevirtual 202, 3), (258, .goto (17), 3), (261, .aload_n 0, 1), (262, .aload_n 0, 1), (263, .getfield 12, 3), (266, .getfield 110, 3), (269, .putfield 50, 3), (272, .goto (3), 3), (275, .return_, 1)]
theorem dd_Ma_perform : (ld_Ma_perform).all (dOK prog_8_method_5_code) = true := by decide +kernel
theorem d_Ma_perform_0 : decode prog_8_method_5_code 0 = .ok (.getstatic 132, 3) := dd_at dd_Ma_perform 0 rfl
theorem d_Ma_perform_3 : decode prog_8_method_5_code 3 = .ok (.aload_n 1, 1) := dd_at dd_Ma_perform 1 rfl
theorem d_Ma_perform_4 : decode prog_8_method_5_code 4 = .ok (.getfield 114, 3) := dd_at dd_Ma_perform 2 rfl
theorem d_Ma_perform_7 : decode prog_8_method_5_code 7 = .ok (.invokevirtual 137, 3) := dd_at dd_Ma_perform 3 rfl
theorem d_Ma_perform_10 : decode prog_8_method_5_code 10 = .ok (.iaload, 1) := dd_at dd_Ma_perform 4 rfl
theorem d_Ma_perform_11 : decode prog_8_method_5_code 11 = .ok (.tableswitch (264) (1) (17) #[(81), (94), (110), (118), (130), (138), (157), (165), (176), (264), (197), (224), (239), (264), (150), (189), (250)], 81) := dd_at dd_Ma_perform 5 rfl
theorem d_Ma_perform_92 : decode prog_8_method_5_code 92 = .ok (.aload_n 0, 1) := dd_at dd_Ma_perform 6 rfl
theorem d_Ma_perform_93 : decode prog_8_method_5_code 93 = .ok (.aload_n 1, 1) := dd_at dd_Ma_perform 7 rfl
theorem d_Ma_perform_94 : decode prog_8_method_5_code 94 = .ok (.aload_n 0, 1) := dd_at dd_Ma_perform 8 rfl
theorem d_Ma_perform_95 : decode prog_8_method_5_code 95 = .ok (.aload_n 1, 1) := dd_at dd_Ma_perform 9 rfl
theorem d_Ma_perform_96 : decode prog_8_method_5_code 96 = .ok (.invokevirtual 141, 3) := dd_at dd_Ma_perform 10 rfl
theorem d_Ma_perform_99 : decode prog_8_method_5_code 99 = .ok (.invokevirtual 145, 3) := dd_at dd_Ma_perform 11 rfl
theorem d_Ma_perform_102 : decode prog_8_method_5_code 102 = .ok (.goto (173), 3) := dd_at dd_Ma_perform 12 rfl
theorem d_Ma_perform_105 : decode prog_8_method_5_code 105 = .ok (.aload_n 0, 1) := dd_at dd_Ma_perform 13 rfl
theorem d_Ma_perform_106 : decode prog_8_method_5_code 106 = .ok (.aload_n 0, 1) := dd_at dd_Ma_perform 14 rfl
theorem d_Ma_perform_107 : decode prog_8_method_5_code 107 = .ok (.getfield 21, 3) := dd_at dd_Ma_perform 15 rfl
theorem d_Ma_perform_110 : decode prog_8_method_5_code 110 = .ok (.aload_n 1, 1) := dd_at dd_Ma_perform 16 rfl
theorem d_Ma_perform_111 : decode prog_8_method_5_code 111 = .ok (.iconst 0, 1) := dd_at dd_Ma_perform 17 rfl
theorem d_Ma_perform_112 : decode prog_8_method_5_code 112 = .ok (.invokevirtual 149, 3) := dd_at dd_Ma_perform 18 rfl
theorem d_Ma_perform_115 : decode prog_8_method_5_code 115 = .ok (.invokevirtual 153, 3) := dd_at dd_Ma_perform 19 rfl
theorem d_Ma_perform_118 : decode prog_8_method_5_code 118 = .ok (.goto (157), 3) := dd_at dd_Ma_perform 20 rfl
theorem d_Ma_perform_121 : decode prog_8_method_5_code 121 = .ok (.aload_n 0, 1) := dd_at dd_Ma_perform 21 rfl
theorem d_Ma_perform_122 : decode prog_8_method_5_code 122 = .ok (.aload_n 1, 1) := dd_at dd_Ma_perform 22 rfl
theorem d_Ma_perform_123 : decode prog_8_method_5_code 123 = .ok (.invokevirtual 157, 3) := dd_at dd_Ma_perform 23 rfl
theorem d_Ma_perform_126 : decode prog_8_method_5_code 126 = .ok (.goto (149), 3) := dd_at dd_Ma_perform 24 rfl
theorem d_Ma_perform_129 : decode prog_8_method_5_code 129 = .ok (.aload_n 0, 1) := dd_at dd_Ma_perform 25 rfl
theorem d_Ma_perform_130 : decode prog_8_method_5_code 130 = .ok (.aload_n 1, 1) := dd_at dd_Ma_perform 26 rfl
theorem d_Ma_perform_131 : decode prog_8_method_5_code 131 = .ok (.iconst 0, 1) := dd_at dd_Ma_perform 27 rfl
theorem d_Ma_perform_132 : decode prog_8_method_5_code 132 = .ok (.invokevirtual 126, 3) := dd_at dd_Ma_perform 28 rfl
theorem d_Ma_perform_135 : decode prog_8_method_5_code 135 = .ok (.invokevirtual 160, 3) := dd_at dd_Ma_perform 29 rfl
theorem d_Ma_perform_138 : decode prog_8_method_5_code 138 = .ok (.goto (137), 3) := dd_at dd_Ma_perform 30 rfl
theorem d_Ma_perform_141 : decode prog_8_method_5_code 141 = .ok (.aload_n 0, 1) := dd_at dd_Ma_perform 31 rfl
theorem d_Ma_perform_142 : decode prog_8_method_5_code 142 = .ok (.aload_n 1, 1) := dd_at dd_Ma_perform 32 rfl
theorem d_Ma_perform_143 : decode prog_8_method_5_code 143 = .ok (.invokevirtual 164, 3) := dd_at dd_Ma_perform 33 rfl
theorem d_Ma_perform_146 : decode prog_8_method_5_code 146 = .ok (.goto (129), 3) := dd_at dd_Ma_perform 34 rfl
theorem d_Ma_perform_149 : decode prog_8_method_5_code 149 = .ok (.aload_n 0, 1) := dd_at dd_Ma_perform 35 rfl
theorem d_Ma_perform_150 : decode prog_8_method_5_code 150 = .ok (.aload_n 1, 1) := dd_at dd_Ma_perform 36 rfl
theorem d_Ma_perform_151 : decode prog_8_method_5_code 151 = .ok (.iconst 0, 1) := dd_at dd_Ma_perform 37 rfl
theorem d_Ma_perform_152 : decode prog_8_method_5_code 152 = .ok (.invokevirtual 126, 3) := dd_at dd_Ma_perform 38 rfl
theorem d_Ma_perform_155 : decode prog_8_method_5_code 155 = .ok (.invokevirtual 167, 3) := dd_at dd_Ma_perform 39 rfl
theorem d_Ma_perform_158 : decode prog_8_method_5_code 158 = .ok (.goto (117), 3) := dd_at dd_Ma_perform 40 rfl
theorem d_Ma_perform_161 : decode prog_8_method_5_code 161 = .ok (.aload_n 0, 1) := dd_at dd_Ma_perform 41 rfl
theorem d_Ma_perform_162 : decode prog_8_method_5_code 162 = .ok (.invokevirtual 170, 3) := dd_at dd_Ma_perform 42 rfl
theorem d_Ma_perform_165 : decode prog_8_method_5_code 165 = .ok (.goto (110), 3) := dd_at dd_Ma_perform 43 rfl
theorem d_Ma_perform_168 : decode prog_8_method_5_code 168 = .ok (.aload_n 0, 1) := dd_at dd_Ma_perform 44 rfl
theorem d_Ma_perform_169 : decode prog_8_method_5_code 169 = .ok (.aload_n 1, 1) := dd_at dd_Ma_perform 45 rfl
theorem d_Ma_perform_170 : decode prog_8_method_5_code 170 = .ok (.invokevirtual 173, 3) := dd_at dd_Ma_perform 46 rfl
theorem d_Ma_perform_173 : decode prog_8_method_5_code 173 = .ok (.goto (102), 3) := dd_at dd_Ma_perform 47 rfl
theorem d_Ma_perform_176 : decode prog_8_method_5_code 176 = .ok (.aload_n 0, 1) := dd_at dd_Ma_perform 48 rfl
theorem d_Ma_perform_177 : decode prog_8_method_5_code 177 = .ok (.aload_n 1, 1) := dd_at dd_Ma_perform 49 rfl
theorem d_Ma_perform_178 : decode prog_8_method_5_code 178 = .ok (.getfield 176, 3) := dd_at dd_Ma_perform 50 rfl
theorem d_Ma_perform_181 : decode prog_8_method_5_code 181 = .ok (.invokevirtual 179, 3) := dd_at dd_Ma_perform 51 rfl
theorem d_Ma_perform_184 : decode prog_8_method_5_code 184 = .ok (.goto (91), 3) := dd_at dd_Ma_perform 52 rfl
theorem d_Ma_perform_187 : decode prog_8_method_5_code 187 = .ok (.aload_n 0, 1) := dd_at dd_Ma_perform 53 rfl
theorem d_Ma_perform_188 : decode prog_8_method_5_code 188 = .ok (.aload_n 1, 1) := dd_at dd_Ma_perform 54 rfl
theorem d_Ma_perform_189 : decode prog_8_method_5_code 189 = .ok (.aload_n 0, 1) := dd_at dd_Ma_perform 55 rfl
theorem d_Ma_perform_190 : decode prog_8_method_5_code 190 = .ok (.aload_n 1, 1) := dd_at dd_Ma_perform 56 rfl
theorem d_Ma_perform_191 : decode prog_8_method_5_code 191 = .ok (.invokevirtual 141, 3) := dd_at dd_Ma_perform 57 rfl
theorem d_Ma_perform_194 : decode prog_8_method_5_code 194 = .ok (.invokevirtual 182, 3) := dd_at dd_Ma_perform 58 rfl
theorem d_Ma_perform_197 : decode prog_8_method_5_code 197 = .ok (.goto (78), 3) := dd_at dd_Ma_perform 59 rfl
theorem d_Ma_perform_200 : decode prog_8_method_5_code 200 = .ok (.aload_n 0, 1) := dd_at dd_Ma_perform 60 rfl
theorem d_Ma_perform_201 : decode prog_8_method_5_code 201 = .ok (.iconst 0, 1) := dd_at dd_Ma_perform 61 rfl
theorem d_Ma_perform_202 : decode prog_8_method_5_code 202 = .ok (.putfield 107, 3) := dd_at dd_Ma_perform 62 rfl
theorem d_Ma_perform_205 : decode prog_8_method_5_code 205 = .ok (.goto (70), 3) := dd_at dd_Ma_perform 63 rfl
theorem d_Ma_perform_208 : decode prog_8_method_5_code 208 = .ok (.aload_n 0, 1) := dd_at dd_Ma_perform 64 rfl
theorem d_Ma_perform_209 : decode prog_8_method_5_code 209 = .ok (.getfield 21, 3) := dd_at dd_Ma_perform 65 rfl
theorem d_Ma_perform_212 : decode prog_8_method_5_code 212 = .ok (.aload_n 1, 1) := dd_at dd_Ma_perform 66 rfl
theorem d_Ma_perform_213 : decode prog_8_method_5_code 213 = .ok (.getfield 176, 3) := dd_at dd_Ma_perform 67 rfl
theorem d_Ma_perform_216 : decode prog_8_method_5_code 216 = .ok (.invokevirtual 185, 3) := dd_at dd_Ma_perform 68 rfl
theorem d_Ma_perform_219 : decode prog_8_method_5_code 219 = .ok (.aload_n 1, 1) := dd_at dd_Ma_perform 69 rfl
theorem d_Ma_perform_220 : decode prog_8_method_5_code 220 = .ok (.iconst 0, 1) := dd_at dd_Ma_perform 70 rfl
theorem d_Ma_perform_221 : decode prog_8_method_5_code 221 = .ok (.invokevirtual 126, 3) := dd_at dd_Ma_perform 71 rfl
theorem d_Ma_perform_224 : decode prog_8_method_5_code 224 = .ok (.aload_n 1, 1) := dd_at dd_Ma_perform 72 rfl
theorem d_Ma_perform_225 : decode prog_8_method_5_code 225 = .ok (.iconst 1, 1) := dd_at dd_Ma_perform 73 rfl
theorem d_Ma_perform_226 : decode prog_8_method_5_code 226 = .ok (.invokevirtual 126, 3) := dd_at dd_Ma_perform 74 rfl
theorem d_Ma_perform_229 : decode prog_8_method_5_code 229 = .ok (.invokevirtual 189, 3) := dd_at dd_Ma_perform 75 rfl
theorem d_Ma_perform_232 : decode prog_8_method_5_code 232 = .ok (.goto (43), 3) := dd_at dd_Ma_perform 76 rfl
theorem d_Ma_perform_235 : decode prog_8_method_5_code 235 = .ok (.aload_n 0, 1) := dd_at dd_Ma_perform 77 rfl
theorem d_Ma_perform_236 : decode prog_8_method_5_code 236 = .ok (.getfield 21, 3) := dd_at dd_Ma_perform 78 rfl
theorem d_Ma_perform_239 : decode prog_8_method_5_code 239 = .ok (.aload_n 1, 1) := dd_at dd_Ma_perform 79 rfl
theorem d_Ma_perform_240 : decode prog_8_method_5_code 240 = .ok (.getfield 195, 3) := dd_at dd_Ma_perform 80 rfl
theorem d_Ma_perform_243 : decode prog_8_method_5_code 243 = .ok (.aload_n 1, 1) := dd_at dd_Ma_perform 81 rfl
theorem d_Ma_perform_244 : decode prog_8_method_5_code 244 = .ok (.invokevirtual 198, 3) := dd_at dd_Ma_perform 82 rfl
theorem d_Ma_perform_247 : decode prog_8_method_5_code 247 = .ok (.goto (28), 3) := dd_at dd_Ma_perform 83 rfl
theorem d_Ma_perform_250 : decode prog_8_method_5_code 250 = .ok (.aload_n 0, 1) := dd_at dd_Ma_perform 84 rfl
theorem d_Ma_perform_251 : decode prog_8_method_5_code 251 = .ok (.getfield 21, 3) := dd_at dd_Ma_perform 85 rfl
theorem d_Ma_perform_254 : decode prog_8_method_5_code 254 = .ok (.aload_n 1, 1) := dd_at dd_Ma_perform 86 rfl
theorem d_Ma_perform_255 : decode prog_8_method_5_code 255 = .ok (.invokevirtual 202, 3) := dd_at dd_Ma_perform 87 rfl
theorem d_Ma_perform_258 : decode prog_8_method_5_code 258 = .ok (.goto (17), 3) := dd_at dd_Ma_perform 88 rfl
theorem d_Ma_perform_261 : decode prog_8_method_5_code 261 = .ok (.aload_n 0, 1) := dd_at dd_Ma_perform 89 rfl
theorem d_Ma_perform_262 : decode prog_8_method_5_code 262 = .ok (.aload_n 0, 1) := dd_at dd_Ma_perform 90 rfl
theorem d_Ma_perform_263 : decode prog_8_method_5_code 263 = .ok (.getfield 12, 3) := dd_at dd_Ma_perform 91 rfl
theorem d_Ma_perform_266 : decode prog_8_method_5_code 266 = .ok (.getfield 110, 3) := dd_at dd_Ma_perform 92 rfl
theorem d_Ma_perform_269 : decode prog_8_method_5_code 269 = .ok (.putfield 50, 3) := dd_at dd_Ma_perform 93 rfl
theorem d_Ma_perform_272 : decode prog_8_method_5_code 272 = .ok (.goto (3), 3) := dd_at dd_Ma_perform 94 rfl
theorem d_Ma_perform_275 : decode prog_8_method_5_code 275 = .ok (.return_, 1) := dd_at dd_Ma_perform 95 rfl
def ld_Pa_power : List (Nat × Instr × Nat) := [(0, .aload_n 0, 1), (1, .invokevirtual 266, 3), (4, .istore_n 1, 1), (5, .iconst 0, 1), (6, .istore_n 2, 1), (7, .iload_n 2, 1), (8, .bipush (60), 2), (10, .if_icmp .ge (45), 3), (13, .iload_n 1, 1), (14, .ifCond .eq (41), 3), (17, .aload_n 0, 1), (18, .bipush (94), 2), (20, .invokevirtual 68, 3), (23, .ifCond .eq (32), 3), (26, .aload_n 0, 1), (27, .invokevirtual 266, 3), (30, .ifCond .eq (17), 3), (33, .aload_n 0, 1), (34, .bipush (8), 2), (36, .iconst 0, 1), (37, .invokevirtual 259, 3), (40, .ifCond .eq (7), 3), (43, .iconst 1, 1), (44, .goto (4), 3), (47, .iconst 0, 1), (48, .istore_n 1, 1), (49, .iinc 2 (1), 3), (52, .goto (-45), 3), (55, .iload_n 1, 1), (56, .ireturn, 1)]
theorem dd_Pa_power : (ld_Pa_power).all (dOK prog_10_method_32_code) = true := by decide +kernel
theorem d_Pa_power_0 : decode prog_10_method_32_code 0 = .ok (.aload_n 0, 1) := dd_at dd_Pa_power 0 rfl
theorem d_Pa_power_1 : decode prog_10_method_32_code 1 = .ok (.invokevirtual 266, 3) := dd_at dd_Pa_power 1 rfl
theorem d_Pa_power_4 : decode prog_10_method_32_code 4 = .ok (.istore_n 1, 1) := dd_at dd_Pa_power 2 rfl
theorem d_Pa_power_5 : decode prog_10_method_32_code 5 = .ok (.iconst 0, 1) := dd_at dd_Pa_power 3 rfl
theorem d_Pa_power_6 : decode prog_10_method_32_code 6 = .ok (.istore_n 2, 1) := dd_at dd_Pa_power 4 rfl
theorem d_Pa_power_7 : decode prog_10_method_32_code 7 = .ok (.iload_n 2, 1) := dd_at dd_Pa_power 5 rfl
theorem d_Pa_power_8 : decode prog_10_method_32_code 8 = .ok (.bipush (60), 2) := dd_at dd_Pa_power 6 rfl
theorem d_Pa_power_10 : decode prog_10_method_32_code 10 = .ok (.if_icmp .ge (45), 3) := dd_at dd_Pa_power 7 rfl
theorem d_Pa_power_13 : decode prog_10_method_32_code 13 = .ok (.iload_n 1, 1) := dd_at dd_Pa_power 8 rfl
theorem d_Pa_power_14 : decode prog_10_method_32_code 14 = .ok (.ifCond .eq (41), 3) := dd_at dd_Pa_power 9 rfl
theorem d_Pa_power_17 : decode prog_10_method_32_code 17 = .ok (.aload_n 0, 1) := dd_at dd_Pa_power 10 rfl
theorem d_Pa_power_18 : decode prog_10_method_32_code 18 = .ok (.bipush (94), 2) := dd_at dd_Pa_power 11 rfl
theorem d_Pa_power_20 : decode prog_10_method_32_code 20 = .ok (.invokevirtual 68, 3) := dd_at dd_Pa_power 12 rfl
theorem d_Pa_power_23 : decode prog_10_method_32_code 23 = .ok (.ifCond .eq (32), 3) := dd_at dd_Pa_power 13 rfl
theorem d_Pa_power_26 : decode prog_10_method_32_code 26 = .ok (.aload_n 0, 1) := dd_at dd_Pa_power 14 rfl
theorem d_Pa_power_27 : decode prog_10_method_32_code 27 = .ok (.invokevirtual 266, 3) := dd_at dd_Pa_power 15 rfl
theorem d_Pa_power_30 : decode prog_10_method_32_code 30 = .ok (.ifCond .eq (17), 3) := dd_at dd_Pa_power 16 rfl
theorem d_Pa_power_33 : decode prog_10_method_32_code 33 = .ok (.aload_n 0, 1) := dd_at dd_Pa_power 17 rfl
theorem d_Pa_power_34 : decode prog_10_method_32_code 34 = .ok (.bipush (8), 2) := dd_at dd_Pa_power 18 rfl
theorem d_Pa_power_36 : decode prog_10_method_32_code 36 = .ok (.iconst 0, 1) := dd_at dd_Pa_power 19 rfl
theorem d_Pa_power_37 : decode prog_10_method_32_code 37 = .ok (.invokevirtual 259, 3) := dd_at dd_Pa_power 20 rfl
theorem d_Pa_power_40 : decode prog_10_method_32_code 40 = .ok (.ifCond .eq (7), 3) := dd_at dd_Pa_power 21 rfl
theorem d_Pa_power_43 : decode prog_10_method_32_code 43 = .ok (.iconst 1, 1) := dd_at dd_Pa_power 22 rfl
theorem d_Pa_power_44 : decode prog_10_method_32_code 44 = .ok (.goto (4), 3) := dd_at dd_Pa_power 23 rfl
theorem d_Pa_power_47 : decode prog_10_method_32_code 47 = .ok (.iconst 0, 1) := dd_at dd_Pa_power 24 rfl
theorem d_Pa_power_48 : decode prog_10_method_32_code 48 = .ok (.istore_n 1, 1) := dd_at dd_Pa_power 25 rfl
theorem d_Pa_power_49 : decode prog_10_method_32_code 49 = .ok (.iinc 2 (1), 3) := dd_at dd_Pa_power 26 rfl
theorem d_Pa_power_52 : decode prog_10_method_32_code 52 = .ok (.goto (-45), 3) := dd_at dd_Pa_power 27 rfl
theorem d_Pa_power_55 : decode prog_10_method_32_code 55 = .ok (.iload_n 1, 1) := dd_at dd_Pa_power 28 rfl
theorem d_Pa_power_56 : decode prog_10_method_32_code 56 = .ok (.ireturn, 1) := dd_at dd_Pa_power 29 rfl
def ld_Ma_execute : List (Nat × Instr × Nat) := [(0, .aload_n 0, 1), (1, .invokevirtual 47, 3), (4, .aload_n 0, 1), (5, .getfield 12, 3), (8, .aload_n 0, 1), (9, .getfield 50, 3), (12, .invokevirtual 53, 3), (15, .astore_n 1, 1), (16, .aload_n 1, 1), (17, .ifnull (83), 3), (20, .aload_n 0, 1), (21, .getfield 57, 3), (24, .sipush (300), 3), (27, .if_icmp .ge (73), 3), (30, .aload_n 0, 1), (31, .dup, 1), (32, .getfield 57, 3), (35, .iconst 1, 1), (36, .iadd, 1), (37, .putfield 57, 3), (40, .aload_n 0, 1), (41, .aload_n 1, 1), (42, .getfield 60, 3), (45, .putfield 36, 3), (48, .aload_n 0, 1), (49, .aload_n 0, 1), (50, .getfield 50, 3), (53, .putfield 65, 3), (56, .aload_n 0, 1), (57, .dup, 1), (58, .getfield 50, 3), (61, .iconst 1, 1), (62, .iadd, 1), (63, .putfield 50, 3), (66, .aload_n 0, 1), (67, .aload_n 1, 1), (68, .invokevirtual 68, 3), (71, .aload_n 0, 1), (72, .getfield 21, 3), (75, .invokevirtual 72, 3), (78, .ifCond .eq (17), 3), (81, .aload_n 0, 1), (82, .getfield 12, 3), (85, .aload_n 0, 1), (86, .getfield 50, 3), (89, .invokevirtual 53, 3), (92, .goto (4), 3), (95, .aconst_null, 1), (96, .astore_n 1, 1), (97, .goto (-81), 3), (100, .aload_n 1, 1), (101, .ifnull (13), 3), (104, .aload_n 0, 1), (105, .getfield 21, 3), (108, .getstatic 76, 3), (111, .invokevirtual 82, 3), (114, .aload_n 0, 1), (115, .getfield 21, 3), (118, .invokevirtual 72, 3), (121, .ifCond .ne (13), 3), (124, .aload_n 0, 1), (125, .dup, 1), (126, .getfield 86, 3), (129, .iconst 1, 1), (130, .iadd, 1), (131, .putfield 86, 3), (134, .aload_n 0, 1), (135, .getfield 21, 3), (138, .getfield 89, 3), (141, .areturn, 1)]
theorem dd_Ma_execute : (ld_Ma_execute).all (dOK prog_8_method_2_code) = true := by decide +kernel
theorem d_Ma_execute_0 : decode prog_8_method_2_code 0 = .ok (.aload_n 0, 1) := dd_at dd_Ma_execute 0 rfl
theorem d_Ma_execute_1 : decode prog_8_method_2_code 1 = .ok (.invokevirtual 47, 3) := dd_at dd_Ma_execute 1 rfl
theorem d_Ma_execute_4 : decode prog_8_method_2_code 4 = .ok (.aload_n 0, 1) := dd_at dd_Ma_execute 2 rfl
theorem d_Ma_execute_5 : decode prog_8_method_2_code 5 = .ok (.getfield 12, 3) := dd_at dd_Ma_execute 3 rfl
theorem d_Ma_execute_8 : decode prog_8_method_2_code 8 = .ok (.aload_n 0, 1) := dd_at dd_Ma_execute 4 rfl
theorem d_Ma_execute_9 : decode prog_8_method_2_code 9 = .ok (.getfield 50, 3) := dd_at dd_Ma_execute 5 rfl
theorem d_Ma_execute_12 : decode prog_8_method_2_code 12 = .ok (.invokevirtual 53, 3) := dd_at dd_Ma_execute 6 rfl
theorem d_Ma_execute_15 : decode prog_8_method_2_code 15 = .ok (.astore_n 1, 1) := dd_at dd_Ma_execute 7 rfl
theorem d_Ma_execute_16 : decode prog_8_method_2_code 16 = .ok (.aload_n 1, 1) := dd_at dd_Ma_execute 8 rfl
theorem d_Ma_execute_17 : decode prog_8_method_2_code 17 = .ok (.ifnull (83), 3) := dd_at dd_Ma_execute 9 rfl
theorem d_Ma_execute_20 : decode prog_8_method_2_code 20 = .ok (.aload_n 0, 1) := dd_at dd_Ma_execute 10 rfl
theorem d_Ma_execute_21 : decode prog_8_method_2_code 21 = .ok (.getfield 57, 3) := dd_at dd_Ma_execute 11 rfl
theorem d_Ma_execute_24 : decode prog_8_method_2_code 24 = .ok (.sipush (300), 3) := dd_at dd_Ma_execute 12 rfl
theorem d_Ma_execute_27 : decode prog_8_method_2_code 27 = .ok (.if_icmp .ge (73), 3) := dd_at dd_Ma_execute 13 rfl
theorem d_Ma_execute_30 : decode prog_8_method_2_code 30 = .ok (.aload_n 0, 1) := dd_at dd_Ma_execute 14 rfl
theorem d_Ma_execute_31 : decode prog_8_method_2_code 31 = .ok (.dup, 1) := dd_at dd_Ma_execute 15 rfl
theorem d_Ma_execute_32 : decode prog_8_method_2_code 32 = .ok (.getfield 57, 3) := dd_at dd_Ma_execute 16 rfl
theorem d_Ma_execute_35 : decode prog_8_method_2_code 35 = .ok (.iconst 1, 1) := dd_at dd_Ma_execute 17 rfl
theorem d_Ma_execute_36 : decode prog_8_method_2_code 36 = .ok (.iadd, 1) := dd_at dd_Ma_execute 18 rfl
theorem d_Ma_execute_37 : decode prog_8_method_2_code 37 = .ok (.putfield 57, 3) := dd_at dd_Ma_execute 19 rfl
theorem d_Ma_execute_40 : decode prog_8_method_2_code 40 = .ok (.aload_n 0, 1) := dd_at dd_Ma_execute 20 rfl
theorem d_Ma_execute_41 : decode prog_8_method_2_code 41 = .ok (.aload_n 1, 1) := dd_at dd_Ma_execute 21 rfl
theorem d_Ma_execute_42 : decode prog_8_method_2_code 42 = .ok (.getfield 60, 3) := dd_at dd_Ma_execute 22 rfl
theorem d_Ma_execute_45 : decode prog_8_method_2_code 45 = .ok (.putfield 36, 3) := dd_at dd_Ma_execute 23 rfl
theorem d_Ma_execute_48 : decode prog_8_method_2_code 48 = .ok (.aload_n 0, 1) := dd_at dd_Ma_execute 24 rfl
theorem d_Ma_execute_49 : decode prog_8_method_2_code 49 = .ok (.aload_n 0, 1) := dd_at dd_Ma_execute 25 rfl
theorem d_Ma_execute_50 : decode prog_8_method_2_code 50 = .ok (.getfield 50, 3) := dd_at dd_Ma_execute 26 rfl
theorem d_Ma_execute_53 : decode prog_8_method_2_code 53 = .ok (.putfield 65, 3) := dd_at dd_Ma_execute 27 rfl
theorem d_Ma_execute_56 : decode prog_8_method_2_code 56 = .ok (.aload_n 0, 1) := dd_at dd_Ma_execute 28 rfl
theorem d_Ma_execute_57 : decode prog_8_method_2_code 57 = .ok (.dup, 1) := dd_at dd_Ma_execute 29 rfl
theorem d_Ma_execute_58 : decode prog_8_method_2_code 58 = .ok (.getfield 50, 3) := dd_at dd_Ma_execute 30 rfl
theorem d_Ma_execute_61 : decode prog_8_method_2_code 61 = .ok (.iconst 1, 1) := dd_at dd_Ma_execute 31 rfl
theorem d_Ma_execute_62 : decode prog_8_method_2_code 62 = .ok (.iadd, 1) := dd_at dd_Ma_execute 32 rfl
theorem d_Ma_execute_63 : decode prog_8_method_2_code 63 = .ok (.putfield 50, 3) := dd_at dd_Ma_execute 33 rfl
theorem d_Ma_execute_66 : decode prog_8_method_2_code 66 = .ok (.aload_n 0, 1) := dd_at dd_Ma_execute 34 rfl
theorem d_Ma_execute_67 : decode prog_8_method_2_code 67 = .ok (.aload_n 1, 1) := dd_at dd_Ma_execute 35 rfl
theorem d_Ma_execute_68 : decode prog_8_method_2_code 68 = .ok (.invokevirtual 68, 3) := dd_at dd_Ma_execute 36 rfl
theorem d_Ma_execute_71 : decode prog_8_method_2_code 71 = .ok (.aload_n 0, 1) := dd_at dd_Ma_execute 37 rfl
theorem d_Ma_execute_72 : decode prog_8_method_2_code 72 = .ok (.getfield 21, 3) := dd_at dd_Ma_execute 38 rfl
theorem d_Ma_execute_75 : decode prog_8_method_2_code 75 = .ok (.invokevirtual 72, 3) := dd_at dd_Ma_execute 39 rfl
theorem d_Ma_execute_78 : decode prog_8_method_2_code 78 = .ok (.ifCond .eq (17), 3) := dd_at dd_Ma_execute 40 rfl
theorem d_Ma_execute_81 : decode prog_8_method_2_code 81 = .ok (.aload_n 0, 1) := dd_at dd_Ma_execute 41 rfl
theorem d_Ma_execute_82 : decode prog_8_method_2_code 82 = .ok (.getfield 12, 3) := dd_at dd_Ma_execute 42 rfl
theorem d_Ma_execute_85 : decode prog_8_method_2_code 85 = .ok (.aload_n 0, 1) := dd_at dd_Ma_execute 43 rfl
theorem d_Ma_execute_86 : decode prog_8_method_2_code 86 = .ok (.getfield 50, 3) := dd_at dd_Ma_execute 44 rfl
theorem d_Ma_execute_89 : decode prog_8_method_2_code 89 = .ok (.invokevirtual 53, 3) := dd_at dd_Ma_execute 45 rfl
theorem d_Ma_execute_92 : decode prog_8_method_2_code 92 = .ok (.goto (4), 3) := dd_at dd_Ma_execute 46 rfl
theorem d_Ma_execute_95 : decode prog_8_method_2_code 95 = .ok (.aconst_null, 1) := dd_at dd_Ma_execute 47 rfl
theorem d_Ma_execute_96 : decode prog_8_method_2_code 96 = .ok (.astore_n 1, 1) := dd_at dd_Ma_execute 48 rfl
theorem d_Ma_execute_97 : decode prog_8_method_2_code 97 = .ok (.goto (-81), 3) := dd_at dd_Ma_execute 49 rfl
theorem d_Ma_execute_100 : decode prog_8_method_2_code 100 = .ok (.aload_n 1, 1) := dd_at dd_Ma_execute 50 rfl
theorem d_Ma_execute_101 : decode prog_8_method_2_code 101 = .ok (.ifnull (13), 3) := dd_at dd_Ma_execute 51 rfl
theorem d_Ma_execute_104 : decode prog_8_method_2_code 104 = .ok (.aload_n 0, 1) := dd_at dd_Ma_execute 52 rfl
theorem d_Ma_execute_105 : decode prog_8_method_2_code 105 = .ok (.getfield 21, 3) := dd_at dd_Ma_execute 53 rfl
theorem d_Ma_execute_108 : decode prog_8_method_2_code 108 = .ok (.getstatic 76, 3) := dd_at dd_Ma_execute 54 rfl
theorem d_Ma_execute_111 : decode prog_8_method_2_code 111 = .ok (.invokevirtual 82, 3) := dd_at dd_Ma_execute 55 rfl
theorem d_Ma_execute_114 : decode prog_8_method_2_code 114 = .ok (.aload_n 0, 1) := dd_at dd_Ma_execute 56 rfl
theorem d_Ma_execute_115 : decode prog_8_method_2_code 115 = .ok (.getfield 21, 3) := dd_at dd_Ma_execute 57 rfl
theorem d_Ma_execute_118 : decode prog_8_method_2_code 118 = .ok (.invokevirtual 72, 3) := dd_at dd_Ma_execute 58 rfl
theorem d_Ma_execute_121 : decode prog_8_method_2_code 121 = .ok (.ifCond .ne (13), 3) := dd_at dd_Ma_execute 59 rfl
theorem d_Ma_execute_124 : decode prog_8_method_2_code 124 = .ok (.aload_n 0, 1) := dd_at dd_Ma_execute 60 rfl
theorem d_Ma_execute_125 : decode prog_8_method_2_code 125 = .ok (.dup, 1) := dd_at dd_Ma_execute 61 rfl
theorem d_Ma_execute_126 : decode prog_8_method_2_code 126 = .ok (.getfield 86, 3) := dd_at dd_Ma_execute 62 rfl
theorem d_Ma_execute_129 : decode prog_8_method_2_code 129 = .ok (.iconst 1, 1) := dd_at dd_Ma_execute 63 rfl
theorem d_Ma_execute_130 : decode prog_8_method_2_code 130 = .ok (.iadd, 1) := dd_at dd_Ma_execute 64 rfl
theorem d_Ma_execute_131 : decode prog_8_method_2_code 131 = .ok (.putfield 86, 3) := dd_at dd_Ma_execute 65 rfl
theorem d_Ma_execute_134 : decode prog_8_method_2_code 134 = .ok (.aload_n 0, 1) := dd_at dd_Ma_execute 66 rfl
theorem d_Ma_execute_135 : decode prog_8_method_2_code 135 = .ok (.getfield 21, 3) := dd_at dd_Ma_execute 67 rfl
theorem d_Ma_execute_138 : decode prog_8_method_2_code 138 = .ok (.getfield 89, 3) := dd_at dd_Ma_execute 68 rfl
theorem d_Ma_execute_141 : decode prog_8_method_2_code 141 = .ok (.areturn, 1) := dd_at dd_Ma_execute 69 rfl
def ld_Pa_product : List (Nat × Instr × Nat) := [(0, .aload_n 0, 1), (1, .invokevirtual 263, 3), (4, .istore_n 1, 1), (5, .iconst 0, 1), (6, .istore_n 2, 1), (7, .iload_n 2, 1), (8, .bipush (60), 2), (10, .if_icmp .ge (80), 3), (13, .iload_n 1, 1), (14, .ifCond .eq (76), 3), (17, .aload_n 0, 1), (18, .invokevirtual 157, 3), (21, .bipush (42), 2), (23, .if_icmp .eq (12), 3), (26, .aload_n 0, 1), (27, .invokevirtual 157, 3), (30, .bipush (47), 2), (32, .if_icmp .ne (58), 3), (35, .aload_n 0, 1), (36, .invokevirtual 157, 3), (39, .bipush (42), 2), (41, .if_icmp .ne (8), 3), (44, .bipush (6), 2), (46, .goto (5), 3), (49, .bipush (7), 2), (51, .istore_n 3, 1), (52, .aload_n 0, 1), (53, .dup, 1), (54, .getfield 26, 3), (57, .iconst 1, 1), (58, .iadd, 1), (59, .putfield 26, 3), (62, .aload_n 0, 1), (63, .invokevirtual 263, 3), (66, .ifCond .eq (16), 3), (69, .aload_n 0, 1), (70, .iload_n 3, 1), (71, .iconst 0, 1), (72, .invokevirtual 259, 3), (75, .ifCond .eq (7), 3), (78, .iconst 1, 1), (79, .goto (4), 3), (82, .iconst 0, 1), (83, .istore_n 1, 1), (84, .iinc 2 (1), 3), (87, .goto (-80), 3), (90, .iload_n 1, 1), (91, .ireturn, 1)]
theorem dd_Pa_product : (ld_Pa_product).all (dOK prog_10_method_31_code) = true := by decide +kernel
theorem d_Pa_product_0 : decode prog_10_method_31_code 0 = .ok (.aload_n 0, 1) := dd_at dd_Pa_product 0 rfl
theorem d_Pa_product_1 : decode prog_10_method_31_code 1 = .ok (.invokevirtual 263, 3) := dd_at dd_Pa_product 1 rfl
theorem d_Pa_product_4 : decode prog_10_method_31_code 4 = .ok (.istore_n 1, 1) := dd_at dd_Pa_product 2 rfl
theorem d_Pa_product_5 : decode prog_10_method_31_code 5 = .ok (.iconst 0, 1) := dd_at dd_Pa_product 3 rfl
theorem d_Pa_product_6 : decode prog_10_method_31_code 6 = .ok (.istore_n 2, 1) := dd_at dd_Pa_product 4 rfl
theorem d_Pa_product_7 : decode prog_10_method_31_code 7 = .ok (.iload_n 2, 1) := dd_at dd_Pa_product 5 rfl
theorem d_Pa_product_8 : decode prog_10_method_31_code 8 = .ok (.bipush (60), 2) := dd_at dd_Pa_product 6 rfl
theorem d_Pa_product_10 : decode prog_10_method_31_code 10 = .ok (.if_icmp .ge (80), 3) := dd_at dd_Pa_product 7 rfl
theorem d_Pa_product_13 : decode prog_10_method_31_code 13 = .ok (.iload_n 1, 1) := dd_at dd_Pa_product 8 rfl
theorem d_Pa_product_14 : decode prog_10_method_31_code 14 = .ok (.ifCond .eq (76), 3) := dd_at dd_Pa_product 9 rfl
theorem d_Pa_product_17 : decode prog_10_method_31_code 17 = .ok (.aload_n 0, 1) := dd_at dd_Pa_product 10 rfl
theorem d_Pa_product_18 : decode prog_10_method_31_code 18 = .ok (.invokevirtual 157, 3) := dd_at dd_Pa_product 11 rfl
theorem d_Pa_product_21 : decode prog_10_method_31_code 21 = .ok (.bipush (42), 2) := dd_at dd_Pa_product 12 rfl
theorem d_Pa_product_23 : decode prog_10_method_31_code 23 = .ok (.if_icmp .eq (12), 3) := dd_at dd_Pa_product 13 rfl
theorem d_Pa_product_26 : decode prog_10_method_31_code 26 = .ok (.aload_n 0, 1) := dd_at dd_Pa_product 14 rfl
theorem d_Pa_product_27 : decode prog_10_method_31_code 27 = .ok (.invokevirtual 157, 3) := dd_at dd_Pa_product 15 rfl
theorem d_Pa_product_30 : decode prog_10_method_31_code 30 = .ok (.bipush (47), 2) := dd_at dd_Pa_product 16 rfl
theorem d_Pa_product_32 : decode prog_10_method_31_code 32 = .ok (.if_icmp .ne (58), 3) := dd_at dd_Pa_product 17 rfl
theorem d_Pa_product_35 : decode prog_10_method_31_code 35 = .ok (.aload_n 0, 1) := dd_at dd_Pa_product 18 rfl
theorem d_Pa_product_36 : decode prog_10_method_31_code 36 = .ok (.invokevirtual 157, 3) := dd_at dd_Pa_product 19 rfl
theorem d_Pa_product_39 : decode prog_10_method_31_code 39 = .ok (.bipush (42), 2) := dd_at dd_Pa_product 20 rfl
theorem d_Pa_product_41 : decode prog_10_method_31_code 41 = .ok (.if_icmp .ne (8), 3) := dd_at dd_Pa_product 21 rfl
theorem d_Pa_product_44 : decode prog_10_method_31_code 44 = .ok (.bipush (6), 2) := dd_at dd_Pa_product 22 rfl
theorem d_Pa_product_46 : decode prog_10_method_31_code 46 = .ok (.goto (5), 3) := dd_at dd_Pa_product 23 rfl
theorem d_Pa_product_49 : decode prog_10_method_31_code 49 = .ok (.bipush (7), 2) := dd_at dd_Pa_product 24 rfl
theorem d_Pa_product_51 : decode prog_10_method_31_code 51 = .ok (.istore_n 3, 1) := dd_at dd_Pa_product 25 rfl
theorem d_Pa_product_52 : decode prog_10_method_31_code 52 = .ok (.aload_n 0, 1) := dd_at dd_Pa_product 26 rfl
theorem d_Pa_product_53 : decode prog_10_method_31_code 53 = .ok (.dup, 1) := dd_at dd_Pa_product 27 rfl
theorem d_Pa_product_54 : decode prog_10_method_31_code 54 = .ok (.getfield 26, 3) := dd_at dd_Pa_product 28 rfl
theorem d_Pa_product_57 : decode prog_10_method_31_code 57 = .ok (.iconst 1, 1) := dd_at dd_Pa_product 29 rfl
theorem d_Pa_product_58 : decode prog_10_method_31_code 58 = .ok (.iadd, 1) := dd_at dd_Pa_product 30 rfl
theorem d_Pa_product_59 : decode prog_10_method_31_code 59 = .ok (.putfield 26, 3) := dd_at dd_Pa_product 31 rfl
theorem d_Pa_product_62 : decode prog_10_method_31_code 62 = .ok (.aload_n 0, 1) := dd_at dd_Pa_product 32 rfl
theorem d_Pa_product_63 : decode prog_10_method_31_code 63 = .ok (.invokevirtual 263, 3) := dd_at dd_Pa_product 33 rfl
theorem d_Pa_product_66 : decode prog_10_method_31_code 66 = .ok (.ifCond .eq (16), 3) := dd_at dd_Pa_product 34 rfl
theorem d_Pa_product_69 : decode prog_10_method_31_code 69 = .ok (.aload_n 0, 1) := dd_at dd_Pa_product 35 rfl
theorem d_Pa_product_70 : decode prog_10_method_31_code 70 = .ok (.iload_n 3, 1) := dd_at dd_Pa_product 36 rfl
theorem d_Pa_product_71 : decode prog_10_method_31_code 71 = .ok (.iconst 0, 1) := dd_at dd_Pa_product 37 rfl
theorem d_Pa_product_72 : decode prog_10_method_31_code 72 = .ok (.invokevirtual 259, 3) := dd_at dd_Pa_product 38 rfl
theorem d_Pa_product_75 : decode prog_10_method_31_code 75 = .ok (.ifCond .eq (7), 3) := dd_at dd_Pa_product 39 rfl
theorem d_Pa_product_78 : decode prog_10_method_31_code 78 = .ok (.iconst 1, 1) := dd_at dd_Pa_product 40 rfl
theorem d_Pa_product_79 : decode prog_10_method_31_code 79 = .ok (.goto (4), 3) := dd_at dd_Pa_product 41 rfl
theorem d_Pa_product_82 : decode prog_10_method_31_code 82 = .ok (.iconst 0, 1) := dd_at dd_Pa_product 42 rfl
theorem d_Pa_product_83 : decode prog_10_method_31_code 83 = .ok (.istore_n 1, 1) := dd_at dd_Pa_product 43 rfl
theorem d_Pa_product_84 : decode prog_10_method_31_code 84 = .ok (.iinc 2 (1), 3) := dd_at dd_Pa_product 44 rfl
theorem d_Pa_product_87 : decode prog_10_method_31_code 87 = .ok (.goto (-80), 3) := dd_at dd_Pa_product 45 rfl
theorem d_Pa_product_90 : decode prog_10_method_31_code 90 = .ok (.iload_n 1, 1) := dd_at dd_Pa_product 46 rfl
theorem d_Pa_product_91 : decode prog_10_method_31_code 91 = .ok (.ireturn, 1) := dd_at dd_Pa_product 47 rfl
def ld_Pa_sumB : List (Nat × Instr × Nat) := [(0, .aload_n 0, 1), (1, .bipush (45), 2), (3, .invokevirtual 68, 3), (6, .istore_n 1, 1), (7, .aload_n 0, 1), (8, .invokevirtual 256, 3), (11, .ifCond .eq (20), 3), (14, .iload_n 1, 1), (15, .ifCond .eq (12), 3), (18, .aload_n 0, 1), (19, .iconst 3, 1), (20, .iconst 0, 1), (21, .invokevirtual 259, 3), (24, .ifCond .eq (7), 3), (27, .iconst 1, 1), (28, .goto (4), 3), (31, .iconst 0, 1), (32, .istore_n 2, 1), (33, .iconst 0, 1), (34, .istore_n 3, 1), (35, .iload_n 3, 1), (36, .bipush (60), 2), (38, .if_icmp .ge (80), 3), (41, .iload_n 2, 1), (42, .ifCond .eq (76), 3), (45, .aload_n 0, 1), (46, .invokevirtual 157, 3), (49, .bipush (43), 2), (51, .if_icmp .eq (12), 3), (54, .aload_n 0, 1), (55, .invokevirtual 157, 3), (58, .bipush (45), 2), (60, .if_icmp .ne (58), 3), (63, .aload_n 0, 1), (64, .invokevirtual 157, 3), (67, .bipush (43), 2), (69, .if_icmp .ne (7), 3), (72, .iconst 4, 1), (73, .goto (4), 3), (76, .iconst 5, 1), (77, .istore 4, 2), (79, .aload_n 0, 1), (80, .dup, 1), (81, .getfield 26, 3), (84, .iconst 1, 1), (85, .iadd, 1), (86, .putfield 26, 3), (89, .aload_n 0, 1), (90, .invokevirtual 256, 3), (93, .ifCond .eq (17), 3), (96, .aload_n 0, 1), (97, .iload 4, 2), (99, .iconst 0, 1), (100, .invokevirtual 259, 3), (103, .ifCond .eq (7), 3), (106, .iconst 1, 1), (107, .goto (4), 3), (110, .iconst 0, 1), (111, .istore_n 2, 1), (112, .iinc 3 (1), 3), (115, .goto (-80), 3), (118, .iload_n 2, 1), (119, .ireturn, 1)]
theorem dd_Pa_sumB : (ld_Pa_sumB).all (dOK prog_10_method_30_code) = true := by decide +kernel
theorem d_Pa_sumB_0 : decode prog_10_method_30_code 0 = .ok (.aload_n 0, 1) := dd_at dd_Pa_sumB 0 rfl
theorem d_Pa_sumB_1 : decode prog_10_method_30_code 1 = .ok (.bipush (45), 2) := dd_at dd_Pa_sumB 1 rfl
theorem d_Pa_sumB_3 : decode prog_10_method_30_code 3 = .ok (.invokevirtual 68, 3) := dd_at dd_Pa_sumB 2 rfl
theorem d_Pa_sumB_6 : decode prog_10_method_30_code 6 = .ok (.istore_n 1, 1) := dd_at dd_Pa_sumB 3 rfl
theorem d_Pa_sumB_7 : decode prog_10_method_30_code 7 = .ok (.aload_n 0, 1) := dd_at dd_Pa_sumB 4 rfl
theorem d_Pa_sumB_8 : decode prog_10_method_30_code 8 = .ok (.invokevirtual 256, 3) := dd_at dd_Pa_sumB 5 rfl
theorem d_Pa_sumB_11 : decode prog_10_method_30_code 11 = .ok (.ifCond .eq (20), 3) := dd_at dd_Pa_sumB 6 rfl
theorem d_Pa_sumB_14 : decode prog_10_method_30_code 14 = .ok (.iload_n 1, 1) := dd_at dd_Pa_sumB 7 rfl
theorem d_Pa_sumB_15 : decode prog_10_method_30_code 15 = .ok (.ifCond .eq (12), 3) := dd_at dd_Pa_sumB 8 rfl
theorem d_Pa_sumB_18 : decode prog_10_method_30_code 18 = .ok (.aload_n 0, 1) := dd_at dd_Pa_sumB 9 rfl
theorem d_Pa_sumB_19 : decode prog_10_method_30_code 19 = .ok (.iconst 3, 1) := dd_at dd_Pa_sumB 10 rfl
theorem d_Pa_sumB_20 : decode prog_10_method_30_code 20 = .ok (.iconst 0, 1) := dd_at dd_Pa_sumB 11 rfl
theorem d_Pa_sumB_21 : decode prog_10_method_30_code 21 = .ok (.invokevirtual 259, 3) := dd_at dd_Pa_sumB 12 rfl
theorem d_Pa_sumB_24 : decode prog_10_method_30_code 24 = .ok (.ifCond .eq (7), 3) := dd_at dd_Pa_sumB 13 rfl
theorem d_Pa_sumB_27 : decode prog_10_method_30_code 27 = .ok (.iconst 1, 1) := dd_at dd_Pa_sumB 14 rfl
theorem d_Pa_sumB_28 : decode prog_10_method_30_code 28 = .ok (.goto (4), 3) := dd_at dd_Pa_sumB 15 rfl
theorem d_Pa_sumB_31 : decode prog_10_method_30_code 31 = .ok (.iconst 0, 1) := dd_at dd_Pa_sumB 16 rfl
theorem d_Pa_sumB_32 : decode prog_10_method_30_code 32 = .ok (.istore_n 2, 1) := dd_at dd_Pa_sumB 17 rfl
theorem d_Pa_sumB_33 : decode prog_10_method_30_code 33 = .ok (.iconst 0, 1) := dd_at dd_Pa_sumB 18 rfl
theorem d_Pa_sumB_34 : decode prog_10_method_30_code 34 = .ok (.istore_n 3, 1) := dd_at dd_Pa_sumB 19 rfl
theorem d_Pa_sumB_35 : decode prog_10_method_30_code 35 = .ok (.iload_n 3, 1) := dd_at dd_Pa_sumB 20 rfl
theorem d_Pa_sumB_36 : decode prog_10_method_30_code 36 = .ok (.bipush (60), 2) := dd_at dd_Pa_sumB 21 rfl
theorem d_Pa_sumB_38 : decode prog_10_method_30_code 38 = .ok (.if_icmp .ge (80), 3) := dd_at dd_Pa_sumB 22 rfl
theorem d_Pa_sumB_41 : decode prog_10_method_30_code 41 = .ok (.iload_n 2, 1) := dd_at dd_Pa_sumB 23 rfl
theorem d_Pa_sumB_42 : decode prog_10_method_30_code 42 = .ok (.ifCond .eq (76), 3) := dd_at dd_Pa_sumB 24 rfl
theorem d_Pa_sumB_45 : decode prog_10_method_30_code 45 = .ok (.aload_n 0, 1) := dd_at dd_Pa_sumB 25 rfl
theorem d_Pa_sumB_46 : decode prog_10_method_30_code 46 = .ok (.invokevirtual 157, 3) := dd_at dd_Pa_sumB 26 rfl
theorem d_Pa_sumB_49 : decode prog_10_method_30_code 49 = .ok (.bipush (43), 2) := dd_at dd_Pa_sumB 27 rfl
theorem d_Pa_sumB_51 : decode prog_10_method_30_code 51 = .ok (.if_icmp .eq (12), 3) := dd_at dd_Pa_sumB 28 rfl
theorem d_Pa_sumB_54 : decode prog_10_method_30_code 54 = .ok (.aload_n 0, 1) := dd_at dd_Pa_sumB 29 rfl
theorem d_Pa_sumB_55 : decode prog_10_method_30_code 55 = .ok (.invokevirtual 157, 3) := dd_at dd_Pa_sumB 30 rfl
theorem d_Pa_sumB_58 : decode prog_10_method_30_code 58 = .ok (.bipush (45), 2) := dd_at dd_Pa_sumB 31 rfl
theorem d_Pa_sumB_60 : decode prog_10_method_30_code 60 = .ok (.if_icmp .ne (58), 3) := dd_at dd_Pa_sumB 32 rfl
theorem d_Pa_sumB_63 : decode prog_10_method_30_code 63 = .ok (.aload_n 0, 1) := dd_at dd_Pa_sumB 33 rfl
theorem d_Pa_sumB_64 : decode prog_10_method_30_code 64 = .ok (.invokevirtual 157, 3) := dd_at dd_Pa_sumB 34 rfl
theorem d_Pa_sumB_67 : decode prog_10_method_30_code 67 = .ok (.bipush (43), 2) := dd_at dd_Pa_sumB 35 rfl
theorem d_Pa_sumB_69 : decode prog_10_method_30_code 69 = .ok (.if_icmp .ne (7), 3) := dd_at dd_Pa_sumB 36 rfl
theorem d_Pa_sumB_72 : decode prog_10_method_30_code 72 = .ok (.iconst 4, 1) := dd_at dd_Pa_sumB 37 rfl
theorem d_Pa_sumB_73 : decode prog_10_method_30_code 73 = .ok (.goto (4), 3) := dd_at dd_Pa_sumB 38 rfl
theorem d_Pa_sumB_76 : decode prog_10_method_30_code 76 = .ok (.iconst 5, 1) := dd_at dd_Pa_sumB 39 rfl
theorem d_Pa_sumB_77 : decode prog_10_method_30_code 77 = .ok (.istore 4, 2) := dd_at dd_Pa_sumB 40 rfl
theorem d_Pa_sumB_79 : decode prog_10_method_30_code 79 = .ok (.aload_n 0, 1) := dd_at dd_Pa_sumB 41 rfl
theorem d_Pa_sumB_80 : decode prog_10_method_30_code 80 = .ok (.dup, 1) := dd_at dd_Pa_sumB 42 rfl
theorem d_Pa_sumB_81 : decode prog_10_method_30_code 81 = .ok (.getfield 26, 3) := dd_at dd_Pa_sumB 43 rfl
theorem d_Pa_sumB_84 : decode prog_10_method_30_code 84 = .ok (.iconst 1, 1) := dd_at dd_Pa_sumB 44 rfl
theorem d_Pa_sumB_85 : decode prog_10_method_30_code 85 = .ok (.iadd, 1) := dd_at dd_Pa_sumB 45 rfl
theorem d_Pa_sumB_86 : decode prog_10_method_30_code 86 = .ok (.putfield 26, 3) := dd_at dd_Pa_sumB 46 rfl
theorem d_Pa_sumB_89 : decode prog_10_method_30_code 89 = .ok (.aload_n 0, 1) := dd_at dd_Pa_sumB 47 rfl
theorem d_Pa_sumB_90 : decode prog_10_method_30_code 90 = .ok (.invokevirtual 256, 3) := dd_at dd_Pa_sumB 48 rfl
theorem d_Pa_sumB_93 : decode prog_10_method_30_code 93 = .ok (.ifCond .eq (17), 3) := dd_at dd_Pa_sumB 49 rfl
theorem d_Pa_sumB_96 : decode prog_10_method_30_code 96 = .ok (.aload_n 0, 1) := dd_at dd_Pa_sumB 50 rfl
theorem d_Pa_sumB_97 : decode prog_10_method_30_code 97 = .ok (.iload 4, 2) := dd_at dd_Pa_sumB 51 rfl
theorem d_Pa_sumB_99 : decode prog_10_method_30_code 99 = .ok (.iconst 0, 1) := dd_at dd_Pa_sumB 52 rfl
theorem d_Pa_sumB_100 : decode prog_10_method_30_code 100 = .ok (.invokevirtual 259, 3) := dd_at dd_Pa_sumB 53 rfl
theorem d_Pa_sumB_103 : decode prog_10_method_30_code 103 = .ok (.ifCond .eq (7), 3) := dd_at dd_Pa_sumB 54 rfl
theorem d_Pa_sumB_106 : decode prog_10_method_30_code 106 = .ok (.iconst 1, 1) := dd_at dd_Pa_sumB 55 rfl
theorem d_Pa_sumB_107 : decode prog_10_method_30_code 107 = .ok (.goto (4), 3) := dd_at dd_Pa_sumB 56 rfl
theorem d_Pa_sumB_110 : decode prog_10_method_30_code 110 = .ok (.iconst 0, 1) := dd_at dd_Pa_sumB 57 rfl
theorem d_Pa_sumB_111 : decode prog_10_method_30_code 111 = .ok (.istore_n 2, 1) := dd_at dd_Pa_sumB 58 rfl
theorem d_Pa_sumB_112 : decode prog_10_method_30_code 112 = .ok (.iinc 3 (1), 3) := dd_at dd_Pa_sumB 59 rfl
theorem d_Pa_sumB_115 : decode prog_10_method_30_code 115 = .ok (.goto (-80), 3) := dd_at dd_Pa_sumB 60 rfl
theorem d_Pa_sumB_118 : decode prog_10_method_30_code 118 = .ok (.iload_n 2, 1) := dd_at dd_Pa_sumB 61 rfl
theorem d_Pa_sumB_119 : decode prog_10_method_30_code 119 = .ok (.ireturn, 1) := dd_at dd_Pa_sumB 62 rfl
def ld_Pa_expression : List (Nat × Instr × Nat) := [(0, .aload_n 0, 1), (1, .invokevirtual 250, 3), (4, .istore_n 1, 1), (5, .aload_n 0, 1), (6, .getfield 12, 3), (9, .invokevirtual 253, 3), (12, .iload_n 1, 1), (13, .ireturn, 1)]
theorem dd_Pa_expression : (ld_Pa_expression).all (dOK prog_10_method_29_code) = true := by decide +kernel
theorem d_Pa_expression_0 : decode prog_10_method_29_code 0 = .ok (.aload_n 0, 1) := dd_at dd_Pa_expression 0 rfl
theorem d_Pa_expression_1 : decode prog_10_method_29_code 1 = .ok (.invokevirtual 250, 3) := dd_at dd_Pa_expression 1 rfl
theorem d_Pa_expression_4 : decode prog_10_method_29_code 4 = .ok (.istore_n 1, 1) := dd_at dd_Pa_expression 2 rfl
theorem d_Pa_expression_5 : decode prog_10_method_29_code 5 = .ok (.aload_n 0, 1) := dd_at dd_Pa_expression 3 rfl
theorem d_Pa_expression_6 : decode prog_10_method_29_code 6 = .ok (.getfield 12, 3) := dd_at dd_Pa_expression 4 rfl
theorem d_Pa_expression_9 : decode prog_10_method_29_code 9 = .ok (.invokevirtual 253, 3) := dd_at dd_Pa_expression 5 rfl
theorem d_Pa_expression_12 : decode prog_10_method_29_code 12 = .ok (.iload_n 1, 1) := dd_at dd_Pa_expression 6 rfl
theorem d_Pa_expression_13 : decode prog_10_method_29_code 13 = .ok (.ireturn, 1) := dd_at dd_Pa_expression 7 rfl
def ld_Pa_target : List (Nat × Instr × Nat) := [(0, .aload_n 0, 1), (1, .getfield 12, 3), (4, .aload_n 0, 1), (5, .invokevirtual 157, 3), (8, .invokestatic 180, 3), (11, .putfield 188, 3), (14, .aload_n 0, 1), (15, .getfield 12, 3), (18, .getfield 188, 3), (21, .ifCond .ne (8), 3), (24, .aload_n 0, 1), (25, .invokevirtual 131, 3), (28, .ireturn, 1), (29, .aload_n 0, 1), (30, .invokevirtual 142, 3), (33, .ifCond .eq (44), 3), (36, .aload_n 0, 1), (37, .invokevirtual 191, 3), (40, .ifCond .eq (37), 3), (43, .aload_n 0, 1), (44, .invokevirtual 112, 3), (47, .ifCond .eq (30), 3), (50, .aload_n 0, 1), (51, .bipush (44), 2), (53, .invokevirtual 68, 3), (56, .ifCond .eq (21), 3), (59, .aload_n 0, 1), (60, .invokevirtual 112, 3), (63, .ifCond .eq (14), 3), (66, .aload_n 0, 1), (67, .invokevirtual 194, 3), (70, .ifCond .eq (7), 3), (73, .iconst 1, 1), (74, .goto (4), 3), (77, .iconst 0, 1), (78, .ireturn, 1)]
theorem dd_Pa_target : (ld_Pa_target).all (dOK prog_10_method_22_code) = true := by decide +kernel
theorem d_Pa_target_0 : decode prog_10_method_22_code 0 = .ok (.aload_n 0, 1) := dd_at dd_Pa_target 0 rfl
theorem d_Pa_target_1 : decode prog_10_method_22_code 1 = .ok (.getfield 12, 3) := dd_at dd_Pa_target 1 rfl
theorem d_Pa_target_4 : decode prog_10_method_22_code 4 = .ok (.aload_n 0, 1) := dd_at dd_Pa_target 2 rfl
theorem d_Pa_target_5 : decode prog_10_method_22_code 5 = .ok (.invokevirtual 157, 3) := dd_at dd_Pa_target 3 rfl
theorem d_Pa_target_8 : decode prog_10_method_22_code 8 = .ok (.invokestatic 180, 3) := dd_at dd_Pa_target 4 rfl
theorem d_Pa_target_11 : decode prog_10_method_22_code 11 = .ok (.putfield 188, 3) := dd_at dd_Pa_target 5 rfl
theorem d_Pa_target_14 : decode prog_10_method_22_code 14 = .ok (.aload_n 0, 1) := dd_at dd_Pa_target 6 rfl
theorem d_Pa_target_15 : decode prog_10_method_22_code 15 = .ok (.getfield 12, 3) := dd_at dd_Pa_target 7 rfl
theorem d_Pa_target_18 : decode prog_10_method_22_code 18 = .ok (.getfield 188, 3) := dd_at dd_Pa_target 8 rfl
theorem d_Pa_target_21 : decode prog_10_method_22_code 21 = .ok (.ifCond .ne (8), 3) := dd_at dd_Pa_target 9 rfl
theorem d_Pa_target_24 : decode prog_10_method_22_code 24 = .ok (.aload_n 0, 1) := dd_at dd_Pa_target 10 rfl
theorem d_Pa_target_25 : decode prog_10_method_22_code 25 = .ok (.invokevirtual 131, 3) := dd_at dd_Pa_target 11 rfl
theorem d_Pa_target_28 : decode prog_10_method_22_code 28 = .ok (.ireturn, 1) := dd_at dd_Pa_target 12 rfl
theorem d_Pa_target_29 : decode prog_10_method_22_code 29 = .ok (.aload_n 0, 1) := dd_at dd_Pa_target 13 rfl
theorem d_Pa_target_30 : decode prog_10_method_22_code 30 = .ok (.invokevirtual 142, 3) := dd_at dd_Pa_target 14 rfl
theorem d_Pa_target_33 : decode prog_10_method_22_code 33 = .ok (.ifCond .eq (44), 3) := dd_at dd_Pa_target 15 rfl
theorem d_Pa_target_36 : decode prog_10_method_22_code 36 = .ok (.aload_n 0, 1) := dd_at dd_Pa_target 16 rfl
theorem d_Pa_target_37 : decode prog_10_method_22_code 37 = .ok (.invokevirtual 191, 3) := dd_at dd_Pa_target 17 rfl
theorem d_Pa_target_40 : decode prog_10_method_22_code 40 = .ok (.ifCond .eq (37), 3) := dd_at dd_Pa_target 18 rfl
theorem d_Pa_target_43 : decode prog_10_method_22_code 43 = .ok (.aload_n 0, 1) := dd_at dd_Pa_target 19 rfl
theorem d_Pa_target_44 : decode prog_10_method_22_code 44 = .ok (.invokevirtual 112, 3) := dd_at dd_Pa_target 20 rfl
theorem d_Pa_target_47 : decode prog_10_method_22_code 47 = .ok (.ifCond .eq (30), 3) := dd_at dd_Pa_target 21 rfl
theorem d_Pa_target_50 : decode prog_10_method_22_code 50 = .ok (.aload_n 0, 1) := dd_at dd_Pa_target 22 rfl
theorem d_Pa_target_51 : decode prog_10_method_22_code 51 = .ok (.bipush (44), 2) := dd_at dd_Pa_target 23 rfl
theorem d_Pa_target_53 : decode prog_10_method_22_code 53 = .ok (.invokevirtual 68, 3) := dd_at dd_Pa_target 24 rfl
theorem d_Pa_target_56 : decode prog_10_method_22_code 56 = .ok (.ifCond .eq (21), 3) := dd_at dd_Pa_target 25 rfl
theorem d_Pa_target_59 : decode prog_10_method_22_code 59 = .ok (.aload_n 0, 1) := dd_at dd_Pa_target 26 rfl
theorem d_Pa_target_60 : decode prog_10_method_22_code 60 = .ok (.invokevirtual 112, 3) := dd_at dd_Pa_target 27 rfl
theorem d_Pa_target_63 : decode prog_10_method_22_code 63 = .ok (.ifCond .eq (14), 3) := dd_at dd_Pa_target 28 rfl
theorem d_Pa_target_66 : decode prog_10_method_22_code 66 = .ok (.aload_n 0, 1) := dd_at dd_Pa_target 29 rfl
theorem d_Pa_target_67 : decode prog_10_method_22_code 67 = .ok (.invokevirtual 194, 3) := dd_at dd_Pa_target 30 rfl
theorem d_Pa_target_70 : decode prog_10_method_22_code 70 = .ok (.ifCond .eq (7), 3) := dd_at dd_Pa_target 31 rfl
theorem d_Pa_target_73 : decode prog_10_method_22_code 73 = .ok (.iconst 1, 1) := dd_at dd_Pa_target 32 rfl
theorem d_Pa_target_74 : decode prog_10_method_22_code 74 = .ok (.goto (4), 3) := dd_at dd_Pa_target 33 rfl
theorem d_Pa_target_77 : decode prog_10_method_22_code 77 = .ok (.iconst 0, 1) := dd_at dd_Pa_target 34 rfl
theorem d_Pa_target_78 : decode prog_10_method_22_code 78 = .ok (.ireturn, 1) := dd_at dd_Pa_target 35 rfl
def ld_Pa_growth : List (Nat × Instr × Nat) := [(0, .aload_n 0, 1), (1, .getfield 26, 3), (4, .aload_n 0, 1), (5, .getfield 46, 3), (8, .if_icmp .eq (19), 3), (11, .aload_n 0, 1), (12, .ldc 199, 2), (14, .invokevirtual 120, 3), (17, .ifCond .eq (14), 3), (20, .aload_n 0, 1), (21, .invokevirtual 112, 3), (24, .ifCond .eq (7), 3), (27, .iconst 1, 1), (28, .goto (4), 3), (31, .iconst 0, 1), (32, .ireturn, 1)]
theorem dd_Pa_growth : (ld_Pa_growth).all (dOK prog_10_method_24_code) = true := by decide +kernel
theorem d_Pa_growth_0 : decode prog_10_method_24_code 0 = .ok (.aload_n 0, 1) := dd_at dd_Pa_growth 0 rfl
theorem d_Pa_growth_1 : decode prog_10_method_24_code 1 = .ok (.getfield 26, 3) := dd_at dd_Pa_growth 1 rfl
theorem d_Pa_growth_4 : decode prog_10_method_24_code 4 = .ok (.aload_n 0, 1) := dd_at dd_Pa_growth 2 rfl
theorem d_Pa_growth_5 : decode prog_10_method_24_code 5 = .ok (.getfield 46, 3) := dd_at dd_Pa_growth 3 rfl
theorem d_Pa_growth_8 : decode prog_10_method_24_code 8 = .ok (.if_icmp .eq (19), 3) := dd_at dd_Pa_growth 4 rfl
theorem d_Pa_growth_11 : decode prog_10_method_24_code 11 = .ok (.aload_n 0, 1) := dd_at dd_Pa_growth 5 rfl
theorem d_Pa_growth_12 : decode prog_10_method_24_code 12 = .ok (.ldc 199, 2) := dd_at dd_Pa_growth 6 rfl
theorem d_Pa_growth_14 : decode prog_10_method_24_code 14 = .ok (.invokevirtual 120, 3) := dd_at dd_Pa_growth 7 rfl
theorem d_Pa_growth_17 : decode prog_10_method_24_code 17 = .ok (.ifCond .eq (14), 3) := dd_at dd_Pa_growth 8 rfl
theorem d_Pa_growth_20 : decode prog_10_method_24_code 20 = .ok (.aload_n 0, 1) := dd_at dd_Pa_growth 9 rfl
theorem d_Pa_growth_21 : decode prog_10_method_24_code 21 = .ok (.invokevirtual 112, 3) := dd_at dd_Pa_growth 10 rfl
theorem d_Pa_growth_24 : decode prog_10_method_24_code 24 = .ok (.ifCond .eq (7), 3) := dd_at dd_Pa_growth 11 rfl
theorem d_Pa_growth_27 : decode prog_10_method_24_code 27 = .ok (.iconst 1, 1) := dd_at dd_Pa_growth 12 rfl
theorem d_Pa_growth_28 : decode prog_10_method_24_code 28 = .ok (.goto (4), 3) := dd_at dd_Pa_growth 13 rfl
theorem d_Pa_growth_31 : decode prog_10_method_24_code 31 = .ok (.iconst 0, 1) := dd_at dd_Pa_growth 14 rfl
theorem d_Pa_growth_32 : decode prog_10_method_24_code 32 = .ok (.ireturn, 1) := dd_at dd_Pa_growth 15 rfl
def ld_Pa_source : List (Nat × Instr × Nat) := [(0, .aload_n 0, 1), (1, .invokevirtual 157, 3), (4, .lookupswitch (214) #[((40), (168)), ((67), (77)), ((73), (102)), ((84), (127)), ((90), (52))], 52), (56, .aload_n 0, 1), (57, .getstatic 201, 3), (60, .invokevirtual 207, 3), (63, .ifCond .eq (16), 3), (66, .aload_n 0, 1), (67, .ldc 211, 2), (69, .invokevirtual 120, 3), (72, .ifCond .eq (7), 3), (75, .iconst 1, 1), (76, .goto (4), 3), (79, .iconst 0, 1), (80, .ireturn, 1), (81, .aload_n 0, 1), (82, .getstatic 212, 3), (85, .invokevirtual 207, 3), (88, .ifCond .eq (16), 3), (91, .aload_n 0, 1), (92, .ldc 215, 2), (94, .invokevirtual 120, 3), (97, .ifCond .eq (7), 3), (100, .iconst 1, 1), (101, .goto (4), 3), (104, .iconst 0, 1), (105, .ireturn, 1), (106, .aload_n 0, 1), (107, .getstatic 216, 3), (110, .invokevirtual 207, 3), (113, .ifCond .eq (16), 3), (116, .aload_n 0, 1), (117, .ldc 219, 2), (119, .invokevirtual 120, 3), (122, .ifCond .eq (7), 3), (125, .iconst 1, 1), (126, .goto (4), 3), (129, .iconst 0, 1), (130, .ireturn, 1), (131, .aload_n 0, 1), (132, .getstatic 220, 3), (135, .invokevirtual 207, 3), (138, .ifCond .eq (32), 3), (141, .aload_n 0, 1), (142, .ldc 223, 2), (144, .invokevirtual 120, 3), (147, .ifCond .eq (23), 3), (150, .aload_n 0, 1), (151, .invokevirtual 225, 3), (154, .ifCond .eq (16), 3), (157, .aload_n 0, 1), (158, .bipush (41), 2), (160, .invokevirtual 68, 3), (163, .ifCond .eq (7), 3), (166, .iconst 1, 1), (167, .goto (4), 3), (170, .iconst 0, 1), (171, .ireturn, 1), (172, .aload_n 0, 1), (173, .getstatic 228, 3), (176, .invokevirtual 207, 3), (179, .ifCond .eq (37), 3), (182, .aload_n 0, 1), (183, .invokevirtual 191, 3), (186, .ifCond .eq (30), 3), (189, .aload_n 0, 1), (190, .invokevirtual 112, 3), (193, .ifCond .eq (23), 3), (196, .aload_n 0, 1), (197, .ldc 231, 2), (199, .invokevirtual 120, 3), (202, .ifCond .eq (14), 3), (205, .aload_n 0, 1), (206, .invokevirtual 225, 3), (209, .ifCond .eq (7), 3), (212, .iconst 1, 1), (213, .goto (4), 3), (216, .iconst 0, 1), (217, .ireturn, 1), (218, .aload_n 0, 1), (219, .getstatic 233, 3), (222, .invokevirtual 207, 3), (225, .ifCond .eq (21), 3), (228, .aload_n 0, 1), (229, .invokevirtual 225, 3), (232, .ifCond .eq (14), 3), (235, .aload_n 0, 1), (236, .invokevirtual 236, 3), (239, .ifCond .eq (7), 3), (242, .iconst 1, 1), (243, .goto (4), 3), (246, .iconst 0, 1), (247, .ireturn, 1)]
theorem dd_Pa_source : (ld_Pa_source).all (dOK prog_10_method_25_code) = true := by decide +kernel
theorem d_Pa_source_0 : decode prog_10_method_25_code 0 = .ok (.aload_n 0, 1) := dd_at dd_Pa_source 0 rfl
theorem d_Pa_source_1 : decode prog_10_method_25_code 1 = .ok (.invokevirtual 157, 3) := dd_at dd_Pa_source 1 rfl
theorem d_Pa_source_4 : decode prog_10_method_25_code 4 = .ok (.lookupswitch (214) #[((40), (168)), ((67), (77)), ((73), (102)), ((84), (127)), ((90), (52))], 52) := dd_at dd_Pa_source 2 rfl
theorem d_Pa_source_56 : decode prog_10_method_25_code 56 = .ok (.aload_n 0, 1) := dd_at dd_Pa_source 3 rfl
theorem d_Pa_source_57 : decode prog_10_method_25_code 57 = .ok (.getstatic 201, 3) := dd_at dd_Pa_source 4 rfl
theorem d_Pa_source_60 : decode prog_10_method_25_code 60 = .ok (.invokevirtual 207, 3) := dd_at dd_Pa_source 5 rfl
theorem d_Pa_source_63 : decode prog_10_method_25_code 63 = .ok (.ifCond .eq (16), 3) := dd_at dd_Pa_source 6 rfl
theorem d_Pa_source_66 : decode prog_10_method_25_code 66 = .ok (.aload_n 0, 1) := dd_at dd_Pa_source 7 rfl
theorem d_Pa_source_67 : decode prog_10_method_25_code 67 = .ok (.ldc 211, 2) := dd_at dd_Pa_source 8 rfl
theorem d_Pa_source_69 : decode prog_10_method_25_code 69 = .ok (.invokevirtual 120, 3) := dd_at dd_Pa_source 9 rfl
theorem d_Pa_source_72 : decode prog_10_method_25_code 72 = .ok (.ifCond .eq (7), 3) := dd_at dd_Pa_source 10 rfl
theorem d_Pa_source_75 : decode prog_10_method_25_code 75 = .ok (.iconst 1, 1) := dd_at dd_Pa_source 11 rfl
theorem d_Pa_source_76 : decode prog_10_method_25_code 76 = .ok (.goto (4), 3) := dd_at dd_Pa_source 12 rfl
theorem d_Pa_source_79 : decode prog_10_method_25_code 79 = .ok (.iconst 0, 1) := dd_at dd_Pa_source 13 rfl
theorem d_Pa_source_80 : decode prog_10_method_25_code 80 = .ok (.ireturn, 1) := dd_at dd_Pa_source 14 rfl
theorem d_Pa_source_81 : decode prog_10_method_25_code 81 = .ok (.aload_n 0, 1) := dd_at dd_Pa_source 15 rfl
theorem d_Pa_source_82 : decode prog_10_method_25_code 82 = .ok (.getstatic 212, 3) := dd_at dd_Pa_source 16 rfl
theorem d_Pa_source_85 : decode prog_10_method_25_code 85 = .ok (.invokevirtual 207, 3) := dd_at dd_Pa_source 17 rfl
theorem d_Pa_source_88 : decode prog_10_method_25_code 88 = .ok (.ifCond .eq (16), 3) := dd_at dd_Pa_source 18 rfl
theorem d_Pa_source_91 : decode prog_10_method_25_code 91 = .ok (.aload_n 0, 1) := dd_at dd_Pa_source 19 rfl
theorem d_Pa_source_92 : decode prog_10_method_25_code 92 = .ok (.ldc 215, 2) := dd_at dd_Pa_source 20 rfl
theorem d_Pa_source_94 : decode prog_10_method_25_code 94 = .ok (.invokevirtual 120, 3) := dd_at dd_Pa_source 21 rfl
theorem d_Pa_source_97 : decode prog_10_method_25_code 97 = .ok (.ifCond .eq (7), 3) := dd_at dd_Pa_source 22 rfl
theorem d_Pa_source_100 : decode prog_10_method_25_code 100 = .ok (.iconst 1, 1) := dd_at dd_Pa_source 23 rfl
theorem d_Pa_source_101 : decode prog_10_method_25_code 101 = .ok (.goto (4), 3) := dd_at dd_Pa_source 24 rfl
theorem d_Pa_source_104 : decode prog_10_method_25_code 104 = .ok (.iconst 0, 1) := dd_at dd_Pa_source 25 rfl
theorem d_Pa_source_105 : decode prog_10_method_25_code 105 = .ok (.ireturn, 1) := dd_at dd_Pa_source 26 rfl
theorem d_Pa_source_106 : decode prog_10_method_25_code 106 = .ok (.aload_n 0, 1) := dd_at dd_Pa_source 27 rfl
theorem d_Pa_source_107 : decode prog_10_method_25_code 107 = .ok (.getstatic 216, 3) := dd_at dd_Pa_source 28 rfl
theorem d_Pa_source_110 : decode prog_10_method_25_code 110 = .ok (.invokevirtual 207, 3) := dd_at dd_Pa_source 29 rfl
theorem d_Pa_source_113 : decode prog_10_method_25_code 113 = .ok (.ifCond .eq (16), 3) := dd_at dd_Pa_source 30 rfl
theorem d_Pa_source_116 : decode prog_10_method_25_code 116 = .ok (.aload_n 0, 1) := dd_at dd_Pa_source 31 rfl
theorem d_Pa_source_117 : decode prog_10_method_25_code 117 = .ok (.ldc 219, 2) := dd_at dd_Pa_source 32 rfl
theorem d_Pa_source_119 : decode prog_10_method_25_code 119 = .ok (.invokevirtual 120, 3) := dd_at dd_Pa_source 33 rfl
theorem d_Pa_source_122 : decode prog_10_method_25_code 122 = .ok (.ifCond .eq (7), 3) := dd_at dd_Pa_source 34 rfl
theorem d_Pa_source_125 : decode prog_10_method_25_code 125 = .ok (.iconst 1, 1) := dd_at dd_Pa_source 35 rfl
theorem d_Pa_source_126 : decode prog_10_method_25_code 126 = .ok (.goto (4), 3) := dd_at dd_Pa_source 36 rfl
theorem d_Pa_source_129 : decode prog_10_method_25_code 129 = .ok (.iconst 0, 1) := dd_at dd_Pa_source 37 rfl
theorem d_Pa_source_130 : decode prog_10_method_25_code 130 = .ok (.ireturn, 1) := dd_at dd_Pa_source 38 rfl
theorem d_Pa_source_131 : decode prog_10_method_25_code 131 = .ok (.aload_n 0, 1) := dd_at dd_Pa_source 39 rfl
theorem d_Pa_source_132 : decode prog_10_method_25_code 132 = .ok (.getstatic 220, 3) := dd_at dd_Pa_source 40 rfl
theorem d_Pa_source_135 : decode prog_10_method_25_code 135 = .ok (.invokevirtual 207, 3) := dd_at dd_Pa_source 41 rfl
theorem d_Pa_source_138 : decode prog_10_method_25_code 138 = .ok (.ifCond .eq (32), 3) := dd_at dd_Pa_source 42 rfl
theorem d_Pa_source_141 : decode prog_10_method_25_code 141 = .ok (.aload_n 0, 1) := dd_at dd_Pa_source 43 rfl
theorem d_Pa_source_142 : decode prog_10_method_25_code 142 = .ok (.ldc 223, 2) := dd_at dd_Pa_source 44 rfl
theorem d_Pa_source_144 : decode prog_10_method_25_code 144 = .ok (.invokevirtual 120, 3) := dd_at dd_Pa_source 45 rfl
theorem d_Pa_source_147 : decode prog_10_method_25_code 147 = .ok (.ifCond .eq (23), 3) := dd_at dd_Pa_source 46 rfl
theorem d_Pa_source_150 : decode prog_10_method_25_code 150 = .ok (.aload_n 0, 1) := dd_at dd_Pa_source 47 rfl
theorem d_Pa_source_151 : decode prog_10_method_25_code 151 = .ok (.invokevirtual 225, 3) := dd_at dd_Pa_source 48 rfl
theorem d_Pa_source_154 : decode prog_10_method_25_code 154 = .ok (.ifCond .eq (16), 3) := dd_at dd_Pa_source 49 rfl
theorem d_Pa_source_157 : decode prog_10_method_25_code 157 = .ok (.aload_n 0, 1) := dd_at dd_Pa_source 50 rfl
theorem d_Pa_source_158 : decode prog_10_method_25_code 158 = .ok (.bipush (41), 2) := dd_at dd_Pa_source 51 rfl
theorem d_Pa_source_160 : decode prog_10_method_25_code 160 = .ok (.invokevirtual 68, 3) := dd_at dd_Pa_source 52 rfl
theorem d_Pa_source_163 : decode prog_10_method_25_code 163 = .ok (.ifCond .eq (7), 3) := dd_at dd_Pa_source 53 rfl
theorem d_Pa_source_166 : decode prog_10_method_25_code 166 = .ok (.iconst 1, 1) := dd_at dd_Pa_source 54 rfl
theorem d_Pa_source_167 : decode prog_10_method_25_code 167 = .ok (.goto (4), 3) := dd_at dd_Pa_source 55 rfl
theorem d_Pa_source_170 : decode prog_10_method_25_code 170 = .ok (.iconst 0, 1) := dd_at dd_Pa_source 56 rfl
theorem d_Pa_source_171 : decode prog_10_method_25_code 171 = .ok (.ireturn, 1) := dd_at dd_Pa_source 57 rfl
theorem d_Pa_source_172 : decode prog_10_method_25_code 172 = .ok (.aload_n 0, 1) := dd_at dd_Pa_source 58 rfl
theorem d_Pa_source_173 : decode prog_10_method_25_code 173 = .ok (.getstatic 228, 3) := dd_at dd_Pa_source 59 rfl
theorem d_Pa_source_176 : decode prog_10_method_25_code 176 = .ok (.invokevirtual 207, 3) := dd_at dd_Pa_source 60 rfl
theorem d_Pa_source_179 : decode prog_10_method_25_code 179 = .ok (.ifCond .eq (37), 3) := dd_at dd_Pa_source 61 rfl
theorem d_Pa_source_182 : decode prog_10_method_25_code 182 = .ok (.aload_n 0, 1) := dd_at dd_Pa_source 62 rfl
theorem d_Pa_source_183 : decode prog_10_method_25_code 183 = .ok (.invokevirtual 191, 3) := dd_at dd_Pa_source 63 rfl
theorem d_Pa_source_186 : decode prog_10_method_25_code 186 = .ok (.ifCond .eq (30), 3) := dd_at dd_Pa_source 64 rfl
theorem d_Pa_source_189 : decode prog_10_method_25_code 189 = .ok (.aload_n 0, 1) := dd_at dd_Pa_source 65 rfl
theorem d_Pa_source_190 : decode prog_10_method_25_code 190 = .ok (.invokevirtual 112, 3) := dd_at dd_Pa_source 66 rfl
theorem d_Pa_source_193 : decode prog_10_method_25_code 193 = .ok (.ifCond .eq (23), 3) := dd_at dd_Pa_source 67 rfl
theorem d_Pa_source_196 : decode prog_10_method_25_code 196 = .ok (.aload_n 0, 1) := dd_at dd_Pa_source 68 rfl
theorem d_Pa_source_197 : decode prog_10_method_25_code 197 = .ok (.ldc 231, 2) := dd_at dd_Pa_source 69 rfl
theorem d_Pa_source_199 : decode prog_10_method_25_code 199 = .ok (.invokevirtual 120, 3) := dd_at dd_Pa_source 70 rfl
theorem d_Pa_source_202 : decode prog_10_method_25_code 202 = .ok (.ifCond .eq (14), 3) := dd_at dd_Pa_source 71 rfl
theorem d_Pa_source_205 : decode prog_10_method_25_code 205 = .ok (.aload_n 0, 1) := dd_at dd_Pa_source 72 rfl
theorem d_Pa_source_206 : decode prog_10_method_25_code 206 = .ok (.invokevirtual 225, 3) := dd_at dd_Pa_source 73 rfl
theorem d_Pa_source_209 : decode prog_10_method_25_code 209 = .ok (.ifCond .eq (7), 3) := dd_at dd_Pa_source 74 rfl
theorem d_Pa_source_212 : decode prog_10_method_25_code 212 = .ok (.iconst 1, 1) := dd_at dd_Pa_source 75 rfl
theorem d_Pa_source_213 : decode prog_10_method_25_code 213 = .ok (.goto (4), 3) := dd_at dd_Pa_source 76 rfl
theorem d_Pa_source_216 : decode prog_10_method_25_code 216 = .ok (.iconst 0, 1) := dd_at dd_Pa_source 77 rfl
theorem d_Pa_source_217 : decode prog_10_method_25_code 217 = .ok (.ireturn, 1) := dd_at dd_Pa_source 78 rfl
theorem d_Pa_source_218 : decode prog_10_method_25_code 218 = .ok (.aload_n 0, 1) := dd_at dd_Pa_source 79 rfl
theorem d_Pa_source_219 : decode prog_10_method_25_code 219 = .ok (.getstatic 233, 3) := dd_at dd_Pa_source 80 rfl
theorem d_Pa_source_222 : decode prog_10_method_25_code 222 = .ok (.invokevirtual 207, 3) := dd_at dd_Pa_source 81 rfl
theorem d_Pa_source_225 : decode prog_10_method_25_code 225 = .ok (.ifCond .eq (21), 3) := dd_at dd_Pa_source 82 rfl
theorem d_Pa_source_228 : decode prog_10_method_25_code 228 = .ok (.aload_n 0, 1) := dd_at dd_Pa_source 83 rfl
theorem d_Pa_source_229 : decode prog_10_method_25_code 229 = .ok (.invokevirtual 225, 3) := dd_at dd_Pa_source 84 rfl
theorem d_Pa_source_232 : decode prog_10_method_25_code 232 = .ok (.ifCond .eq (14), 3) := dd_at dd_Pa_source 85 rfl
theorem d_Pa_source_235 : decode prog_10_method_25_code 235 = .ok (.aload_n 0, 1) := dd_at dd_Pa_source 86 rfl
theorem d_Pa_source_236 : decode prog_10_method_25_code 236 = .ok (.invokevirtual 236, 3) := dd_at dd_Pa_source 87 rfl
theorem d_Pa_source_239 : decode prog_10_method_25_code 239 = .ok (.ifCond .eq (7), 3) := dd_at dd_Pa_source 88 rfl
theorem d_Pa_source_242 : decode prog_10_method_25_code 242 = .ok (.iconst 1, 1) := dd_at dd_Pa_source 89 rfl
theorem d_Pa_source_243 : decode prog_10_method_25_code 243 = .ok (.goto (4), 3) := dd_at dd_Pa_source 90 rfl
theorem d_Pa_source_246 : decode prog_10_method_25_code 246 = .ok (.iconst 0, 1) := dd_at dd_Pa_source 91 rfl
theorem d_Pa_source_247 : decode prog_10_method_25_code 247 = .ok (.ireturn, 1) := dd_at dd_Pa_source 92 rfl
def ld_Pa_rest : List (Nat × Instr × Nat) := [(0, .getstatic 100, 3), (3, .aload_n 0, 1), (4, .getfield 12, 3), (7, .getfield 86, 3), (10, .invokevirtual 106, 3), (13, .iaload, 1), (14, .tableswitch (395) (1) (14) #[(70), (99), (104), (147), (152), (181), (186), (238), (243), (248), (253), (307), (361), (390)], 70), (84, .aload_n 0, 1), (85, .invokevirtual 109, 3), (88, .ifCond .eq (23), 3), (91, .aload_n 0, 1), (92, .bipush (61), 2), (94, .invokevirtual 68, 3), (97, .ifCond .eq (14), 3), (100, .aload_n 0, 1), (101, .invokevirtual 112, 3), (104, .ifCond .eq (7), 3), (107, .iconst 1, 1), (108, .goto (4), 3), (111, .iconst 0, 1), (112, .ireturn, 1), (113, .aload_n 0, 1), (114, .invokevirtual 112, 3), (117, .ireturn, 1), (118, .aload_n 0, 1), (119, .invokevirtual 112, 3), (122, .ifCond .eq (37), 3), (125, .aload_n 0, 1), (126, .invokevirtual 115, 3), (129, .ifCond .eq (30), 3), (132, .aload_n 0, 1), (133, .invokevirtual 112, 3), (136, .ifCond .eq (23), 3), (139, .aload_n 0, 1), (140, .ldc 118, 2), (142, .invokevirtual 120, 3), (145, .ifCond .eq (14), 3), (148, .aload_n 0, 1), (149, .invokevirtual 123, 3), (152, .ifCond .eq (7), 3), (155, .iconst 1, 1), (156, .goto (4), 3), (159, .iconst 0, 1), (160, .ireturn, 1), (161, .aload_n 0, 1), (162, .invokevirtual 123, 3), (165, .ireturn, 1), (166, .aload_n 0, 1), (167, .invokevirtual 112, 3), (170, .ifCond .eq (23), 3), (173, .aload_n 0, 1), (174, .ldc 126, 2), (176, .invokevirtual 120, 3), (179, .ifCond .eq (14), 3), (182, .aload_n 0, 1), (183, .invokevirtual 128, 3), (186, .ifCond .eq (7), 3), (189, .iconst 1, 1), (190, .goto (4), 3), (193, .iconst 0, 1), (194, .ireturn, 1), (195, .aload_n 0, 1), (196, .invokevirtual 123, 3), (199, .ireturn, 1), (200, .aload_n 0, 1), (201, .invokevirtual 131, 3), (204, .ifCond .eq (46), 3), (207, .aload_n 0, 1), (208, .bipush (61), 2), (210, .invokevirtual 68, 3), (213, .ifCond .eq (37), 3), (216, .aload_n 0, 1), (217, .invokevirtual 112, 3), (220, .ifCond .eq (30), 3), (223, .aload_n 0, 1), (224, .ldc 134, 2), (226, .invokevirtual 120, 3), (229, .ifCond .eq (21), 3), (232, .aload_n 0, 1), (233, .invokevirtual 112, 3), (236, .ifCond .eq (14), 3), (239, .aload_n 0, 1), (240, .invokevirtual 136, 3), (243, .ifCond .eq (7), 3), (246, .iconst 1, 1), (247, .goto (4), 3), (250, .iconst 0, 1), (251, .ireturn, 1), (252, .aload_n 0, 1), (253, .invokevirtual 131, 3), (256, .ireturn, 1), (257, .aload_n 0, 1), (258, .invokevirtual 109, 3), (261, .ireturn, 1), (262, .aload_n 0, 1), (263, .invokevirtual 139, 3), (266, .ireturn, 1), (267, .aload_n 0, 1), (268, .invokevirtual 142, 3), (271, .ifCond .eq (48), 3), (274, .aload_n 0, 1), (275, .bipush (40), 2), (277, .invokevirtual 68, 3), (280, .ifCond .eq (39), 3), (283, .aload_n 0, 1), (284, .invokevirtual 145, 3), (287, .ifCond .eq (32), 3), (290, .aload_n 0, 1), (291, .bipush (44), 2), (293, .invokevirtual 68, 3), (296, .ifCond .eq (23), 3), (299, .aload_n 0, 1), (300, .invokevirtual 145, 3), (303, .ifCond .eq (16), 3), (306, .aload_n 0, 1), (307, .bipush (41), 2), (309, .invokevirtual 68, 3), (312, .ifCond .eq (7), 3), (315, .iconst 1, 1), (316, .goto (4), 3), (319, .iconst 0, 1), (320, .ireturn, 1), (321, .aload_n 0, 1), (322, .invokevirtual 148, 3), (325, .ifCond .eq (48), 3), (328, .aload_n 0, 1), (329, .bipush (40), 2), (331, .invokevirtual 68, 3), (334, .ifCond .eq (39), 3), (337, .aload_n 0, 1), (338, .invokevirtual 131, 3), (341, .ifCond .eq (32), 3), (344, .aload_n 0, 1), (345, .bipush (41), 2), (347, .invokevirtual 68, 3), (350, .ifCond .eq (23), 3), (353, .aload_n 0, 1), (354, .bipush (61), 2), (356, .invokevirtual 68, 3), (359, .ifCond .eq (14), 3), (362, .aload_n 0, 1), (363, .invokevirtual 112, 3), (366, .ifCond .eq (7), 3), (369, .iconst 1, 1), (370, .goto (4), 3), (373, .iconst 0, 1), (374, .ireturn, 1), (375, .aload_n 0, 1), (376, .invokevirtual 142, 3), (379, .ifCond .eq (23), 3), (382, .aload_n 0, 1), (383, .bipush (61), 2), (385, .invokevirtual 68, 3), (388, .ifCond .eq (14), 3), (391, .aload_n 0, 1), (392, .invokevirtual 151, 3), (395, .ifCond .eq (7), 3), (398, .iconst 1, 1), (399, .goto (4), 3), (402, .iconst 0, 1), (403, .ireturn, 1), (404, .aload_n 0, 1), (405, .invokevirtual 154, 3), (408, .ireturn, 1), (409, .iconst 1, 1), (410, .ireturn, 1)]
theorem dd_Pa_rest : (ld_Pa_rest).all (dOK prog_10_method_10_code) = true := by decide +kernel
theorem d_Pa_rest_0 : decode prog_10_method_10_code 0 = .ok (.getstatic 100, 3) := dd_at dd_Pa_rest 0 rfl
theorem d_Pa_rest_3 : decode prog_10_method_10_code 3 = .ok (.aload_n 0, 1) := dd_at dd_Pa_rest 1 rfl
theorem d_Pa_rest_4 : decode prog_10_method_10_code 4 = .ok (.getfield 12, 3) := dd_at dd_Pa_rest 2 rfl
theorem d_Pa_rest_7 : decode prog_10_method_10_code 7 = .ok (.getfield 86, 3) := dd_at dd_Pa_rest 3 rfl
theorem d_Pa_rest_10 : decode prog_10_method_10_code 10 = .ok (.invokevirtual 106, 3) := dd_at dd_Pa_rest 4 rfl
theorem d_Pa_rest_13 : decode prog_10_method_10_code 13 = .ok (.iaload, 1) := dd_at dd_Pa_rest 5 rfl
theorem d_Pa_rest_14 : decode prog_10_method_10_code 14 = .ok (.tableswitch (395) (1) (14) #[(70), (99), (104), (147), (152), (181), (186), (238), (243), (248), (253), (307), (361), (390)], 70) := dd_at dd_Pa_rest 6 rfl
theorem d_Pa_rest_84 : decode prog_10_method_10_code 84 = .ok (.aload_n 0, 1) := dd_at dd_Pa_rest 7 rfl
theorem d_Pa_rest_85 : decode prog_10_method_10_code 85 = .ok (.invokevirtual 109, 3) := dd_at dd_Pa_rest 8 rfl
theorem d_Pa_rest_88 : decode prog_10_method_10_code 88 = .ok (.ifCond .eq (23), 3) := dd_at dd_Pa_rest 9 rfl
theorem d_Pa_rest_91 : decode prog_10_method_10_code 91 = .ok (.aload_n 0, 1) := dd_at dd_Pa_rest 10 rfl
theorem d_Pa_rest_92 : decode prog_10_method_10_code 92 = .ok (.bipush (61), 2) := dd_at dd_Pa_rest 11 rfl
theorem d_Pa_rest_94 : decode prog_10_method_10_code 94 = .ok (.invokevirtual 68, 3) := dd_at dd_Pa_rest 12 rfl
theorem d_Pa_rest_97 : decode prog_10_method_10_code 97 = .ok (.ifCond .eq (14), 3) := dd_at dd_Pa_rest 13 rfl
theorem d_Pa_rest_100 : decode prog_10_method_10_code 100 = .ok (.aload_n 0, 1) := dd_at dd_Pa_rest 14 rfl
theorem d_Pa_rest_101 : decode prog_10_method_10_code 101 = .ok (.invokevirtual 112, 3) := dd_at dd_Pa_rest 15 rfl
theorem d_Pa_rest_104 : decode prog_10_method_10_code 104 = .ok (.ifCond .eq (7), 3) := dd_at dd_Pa_rest 16 rfl
theorem d_Pa_rest_107 : decode prog_10_method_10_code 107 = .ok (.iconst 1, 1) := dd_at dd_Pa_rest 17 rfl
theorem d_Pa_rest_108 : decode prog_10_method_10_code 108 = .ok (.goto (4), 3) := dd_at dd_Pa_rest 18 rfl
theorem d_Pa_rest_111 : decode prog_10_method_10_code 111 = .ok (.iconst 0, 1) := dd_at dd_Pa_rest 19 rfl
theorem d_Pa_rest_112 : decode prog_10_method_10_code 112 = .ok (.ireturn, 1) := dd_at dd_Pa_rest 20 rfl
theorem d_Pa_rest_113 : decode prog_10_method_10_code 113 = .ok (.aload_n 0, 1) := dd_at dd_Pa_rest 21 rfl
theorem d_Pa_rest_114 : decode prog_10_method_10_code 114 = .ok (.invokevirtual 112, 3) := dd_at dd_Pa_rest 22 rfl
theorem d_Pa_rest_117 : decode prog_10_method_10_code 117 = .ok (.ireturn, 1) := dd_at dd_Pa_rest 23 rfl
theorem d_Pa_rest_118 : decode prog_10_method_10_code 118 = .ok (.aload_n 0, 1) := dd_at dd_Pa_rest 24 rfl
theorem d_Pa_rest_119 : decode prog_10_method_10_code 119 = .ok (.invokevirtual 112, 3) := dd_at dd_Pa_rest 25 rfl
theorem d_Pa_rest_122 : decode prog_10_method_10_code 122 = .ok (.ifCond .eq (37), 3) := dd_at dd_Pa_rest 26 rfl
theorem d_Pa_rest_125 : decode prog_10_method_10_code 125 = .ok (.aload_n 0, 1) := dd_at dd_Pa_rest 27 rfl
theorem d_Pa_rest_126 : decode prog_10_method_10_code 126 = .ok (.invokevirtual 115, 3) := dd_at dd_Pa_rest 28 rfl
theorem d_Pa_rest_129 : decode prog_10_method_10_code 129 = .ok (.ifCond .eq (30), 3) := dd_at dd_Pa_rest 29 rfl
theorem d_Pa_rest_132 : decode prog_10_method_10_code 132 = .ok (.aload_n 0, 1) := dd_at dd_Pa_rest 30 rfl
theorem d_Pa_rest_133 : decode prog_10_method_10_code 133 = .ok (.invokevirtual 112, 3) := dd_at dd_Pa_rest 31 rfl
theorem d_Pa_rest_136 : decode prog_10_method_10_code 136 = .ok (.ifCond .eq (23), 3) := dd_at dd_Pa_rest 32 rfl
theorem d_Pa_rest_139 : decode prog_10_method_10_code 139 = .ok (.aload_n 0, 1) := dd_at dd_Pa_rest 33 rfl
theorem d_Pa_rest_140 : decode prog_10_method_10_code 140 = .ok (.ldc 118, 2) := dd_at dd_Pa_rest 34 rfl
theorem d_Pa_rest_142 : decode prog_10_method_10_code 142 = .ok (.invokevirtual 120, 3) := dd_at dd_Pa_rest 35 rfl
theorem d_Pa_rest_145 : decode prog_10_method_10_code 145 = .ok (.ifCond .eq (14), 3) := dd_at dd_Pa_rest 36 rfl
theorem d_Pa_rest_148 : decode prog_10_method_10_code 148 = .ok (.aload_n 0, 1) := dd_at dd_Pa_rest 37 rfl
theorem d_Pa_rest_149 : decode prog_10_method_10_code 149 = .ok (.invokevirtual 123, 3) := dd_at dd_Pa_rest 38 rfl
theorem d_Pa_rest_152 : decode prog_10_method_10_code 152 = .ok (.ifCond .eq (7), 3) := dd_at dd_Pa_rest 39 rfl
theorem d_Pa_rest_155 : decode prog_10_method_10_code 155 = .ok (.iconst 1, 1) := dd_at dd_Pa_rest 40 rfl
theorem d_Pa_rest_156 : decode prog_10_method_10_code 156 = .ok (.goto (4), 3) := dd_at dd_Pa_rest 41 rfl
theorem d_Pa_rest_159 : decode prog_10_method_10_code 159 = .ok (.iconst 0, 1) := dd_at dd_Pa_rest 42 rfl
theorem d_Pa_rest_160 : decode prog_10_method_10_code 160 = .ok (.ireturn, 1) := dd_at dd_Pa_rest 43 rfl
theorem d_Pa_rest_161 : decode prog_10_method_10_code 161 = .ok (.aload_n 0, 1) := dd_at dd_Pa_rest 44 rfl
theorem d_Pa_rest_162 : decode prog_10_method_10_code 162 = .ok (.invokevirtual 123, 3) := dd_at dd_Pa_rest 45 rfl
theorem d_Pa_rest_165 : decode prog_10_method_10_code 165 = .ok (.ireturn, 1) := dd_at dd_Pa_rest 46 rfl
theorem d_Pa_rest_166 : decode prog_10_method_10_code 166 = .ok (.aload_n 0, 1) := dd_at dd_Pa_rest 47 rfl
theorem d_Pa_rest_167 : decode prog_10_method_10_code 167 = .ok (.invokevirtual 112, 3) := dd_at dd_Pa_rest 48 rfl
theorem d_Pa_rest_170 : decode prog_10_method_10_code 170 = .ok (.ifCond .eq (23), 3) := dd_at dd_Pa_rest 49 rfl
theorem d_Pa_rest_173 : decode prog_10_method_10_code 173 = .ok (.aload_n 0, 1) := dd_at dd_Pa_rest 50 rfl
theorem d_Pa_rest_174 : decode prog_10_method_10_code 174 = .ok (.ldc 126, 2) := dd_at dd_Pa_rest 51 rfl
theorem d_Pa_rest_176 : decode prog_10_method_10_code 176 = .ok (.invokevirtual 120, 3) := dd_at dd_Pa_rest 52 rfl
theorem d_Pa_rest_179 : decode prog_10_method_10_code 179 = .ok (.ifCond .eq (14), 3) := dd_at dd_Pa_rest 53 rfl
theorem d_Pa_rest_182 : decode prog_10_method_10_code 182 = .ok (.aload_n 0, 1) := dd_at dd_Pa_rest 54 rfl
theorem d_Pa_rest_183 : decode prog_10_method_10_code 183 = .ok (.invokevirtual 128, 3) := dd_at dd_Pa_rest 55 rfl
theorem d_Pa_rest_186 : decode prog_10_method_10_code 186 = .ok (.ifCond .eq (7), 3) := dd_at dd_Pa_rest 56 rfl
theorem d_Pa_rest_189 : decode prog_10_method_10_code 189 = .ok (.iconst 1, 1) := dd_at dd_Pa_rest 57 rfl
theorem d_Pa_rest_190 : decode prog_10_method_10_code 190 = .ok (.goto (4), 3) := dd_at dd_Pa_rest 58 rfl
theorem d_Pa_rest_193 : decode prog_10_method_10_code 193 = .ok (.iconst 0, 1) := dd_at dd_Pa_rest 59 rfl
theorem d_Pa_rest_194 : decode prog_10_method_10_code 194 = .ok (.ireturn, 1) := dd_at dd_Pa_rest 60 rfl
theorem d_Pa_rest_195 : decode prog_10_method_10_code 195 = .ok (.aload_n 0, 1) := dd_at dd_Pa_rest 61 rfl
theorem d_Pa_rest_196 : decode prog_10_method_10_code 196 = .ok (.invokevirtual 123, 3) := dd_at dd_Pa_rest 62 rfl
theorem d_Pa_rest_199 : decode prog_10_method_10_code 199 = .ok (.ireturn, 1) := dd_at dd_Pa_rest 63 rfl
theorem d_Pa_rest_200 : decode prog_10_method_10_code 200 = .ok (.aload_n 0, 1) := dd_at dd_Pa_rest 64 rfl
theorem d_Pa_rest_201 : decode prog_10_method_10_code 201 = .ok (.invokevirtual 131, 3) := dd_at dd_Pa_rest 65 rfl
theorem d_Pa_rest_204 : decode prog_10_method_10_code 204 = .ok (.ifCond .eq (46), 3) := dd_at dd_Pa_rest 66 rfl
theorem d_Pa_rest_207 : decode prog_10_method_10_code 207 = .ok (.aload_n 0, 1) := dd_at dd_Pa_rest 67 rfl
theorem d_Pa_rest_208 : decode prog_10_method_10_code 208 = .ok (.bipush (61), 2) := dd_at dd_Pa_rest 68 rfl
theorem d_Pa_rest_210 : decode prog_10_method_10_code 210 = .ok (.invokevirtual 68, 3) := dd_at dd_Pa_rest 69 rfl
theorem d_Pa_rest_213 : decode prog_10_method_10_code 213 = .ok (.ifCond .eq (37), 3) := dd_at dd_Pa_rest 70 rfl
theorem d_Pa_rest_216 : decode prog_10_method_10_code 216 = .ok (.aload_n 0, 1) := dd_at dd_Pa_rest 71 rfl
theorem d_Pa_rest_217 : decode prog_10_method_10_code 217 = .ok (.invokevirtual 112, 3) := dd_at dd_Pa_rest 72 rfl
theorem d_Pa_rest_220 : decode prog_10_method_10_code 220 = .ok (.ifCond .eq (30), 3) := dd_at dd_Pa_rest 73 rfl
theorem d_Pa_rest_223 : decode prog_10_method_10_code 223 = .ok (.aload_n 0, 1) := dd_at dd_Pa_rest 74 rfl
theorem d_Pa_rest_224 : decode prog_10_method_10_code 224 = .ok (.ldc 134, 2) := dd_at dd_Pa_rest 75 rfl
theorem d_Pa_rest_226 : decode prog_10_method_10_code 226 = .ok (.invokevirtual 120, 3) := dd_at dd_Pa_rest 76 rfl
theorem d_Pa_rest_229 : decode prog_10_method_10_code 229 = .ok (.ifCond .eq (21), 3) := dd_at dd_Pa_rest 77 rfl
theorem d_Pa_rest_232 : decode prog_10_method_10_code 232 = .ok (.aload_n 0, 1) := dd_at dd_Pa_rest 78 rfl
theorem d_Pa_rest_233 : decode prog_10_method_10_code 233 = .ok (.invokevirtual 112, 3) := dd_at dd_Pa_rest 79 rfl
theorem d_Pa_rest_236 : decode prog_10_method_10_code 236 = .ok (.ifCond .eq (14), 3) := dd_at dd_Pa_rest 80 rfl
theorem d_Pa_rest_239 : decode prog_10_method_10_code 239 = .ok (.aload_n 0, 1) := dd_at dd_Pa_rest 81 rfl
theorem d_Pa_rest_240 : decode prog_10_method_10_code 240 = .ok (.invokevirtual 136, 3) := dd_at dd_Pa_rest 82 rfl
theorem d_Pa_rest_243 : decode prog_10_method_10_code 243 = .ok (.ifCond .eq (7), 3) := dd_at dd_Pa_rest 83 rfl
theorem d_Pa_rest_246 : decode prog_10_method_10_code 246 = .ok (.iconst 1, 1) := dd_at dd_Pa_rest 84 rfl
theorem d_Pa_rest_247 : decode prog_10_method_10_code 247 = .ok (.goto (4), 3) := dd_at dd_Pa_rest 85 rfl
theorem d_Pa_rest_250 : decode prog_10_method_10_code 250 = .ok (.iconst 0, 1) := dd_at dd_Pa_rest 86 rfl
theorem d_Pa_rest_251 : decode prog_10_method_10_code 251 = .ok (.ireturn, 1) := dd_at dd_Pa_rest 87 rfl
theorem d_Pa_rest_252 : decode prog_10_method_10_code 252 = .ok (.aload_n 0, 1) := dd_at dd_Pa_rest 88 rfl
theorem d_Pa_rest_253 : decode prog_10_method_10_code 253 = .ok (.invokevirtual 131, 3) := dd_at dd_Pa_rest 89 rfl
theorem d_Pa_rest_256 : decode prog_10_method_10_code 256 = .ok (.ireturn, 1) := dd_at dd_Pa_rest 90 rfl
theorem d_Pa_rest_257 : decode prog_10_method_10_code 257 = .ok (.aload_n 0, 1) := dd_at dd_Pa_rest 91 rfl
theorem d_Pa_rest_258 : decode prog_10_method_10_code 258 = .ok (.invokevirtual 109, 3) := dd_at dd_Pa_rest 92 rfl
theorem d_Pa_rest_261 : decode prog_10_method_10_code 261 = .ok (.ireturn, 1) := dd_at dd_Pa_rest 93 rfl
theorem d_Pa_rest_262 : decode prog_10_method_10_code 262 = .ok (.aload_n 0, 1) := dd_at dd_Pa_rest 94 rfl
theorem d_Pa_rest_263 : decode prog_10_method_10_code 263 = .ok (.invokevirtual 139, 3) := dd_at dd_Pa_rest 95 rfl
theorem d_Pa_rest_266 : decode prog_10_method_10_code 266 = .ok (.ireturn, 1) := dd_at dd_Pa_rest 96 rfl
theorem d_Pa_rest_267 : decode prog_10_method_10_code 267 = .ok (.aload_n 0, 1) := dd_at dd_Pa_rest 97 rfl
theorem d_Pa_rest_268 : decode prog_10_method_10_code 268 = .ok (.invokevirtual 142, 3) := dd_at dd_Pa_rest 98 rfl
theorem d_Pa_rest_271 : decode prog_10_method_10_code 271 = .ok (.ifCond .eq (48), 3) := dd_at dd_Pa_rest 99 rfl
theorem d_Pa_rest_274 : decode prog_10_method_10_code 274 = .ok (.aload_n 0, 1) := dd_at dd_Pa_rest 100 rfl
theorem d_Pa_rest_275 : decode prog_10_method_10_code 275 = .ok (.bipush (40), 2) := dd_at dd_Pa_rest 101 rfl
theorem d_Pa_rest_277 : decode prog_10_method_10_code 277 = .ok (.invokevirtual 68, 3) := dd_at dd_Pa_rest 102 rfl
theorem d_Pa_rest_280 : decode prog_10_method_10_code 280 = .ok (.ifCond .eq (39), 3) := dd_at dd_Pa_rest 103 rfl
theorem d_Pa_rest_283 : decode prog_10_method_10_code 283 = .ok (.aload_n 0, 1) := dd_at dd_Pa_rest 104 rfl
theorem d_Pa_rest_284 : decode prog_10_method_10_code 284 = .ok (.invokevirtual 145, 3) := dd_at dd_Pa_rest 105 rfl
theorem d_Pa_rest_287 : decode prog_10_method_10_code 287 = .ok (.ifCond .eq (32), 3) := dd_at dd_Pa_rest 106 rfl
theorem d_Pa_rest_290 : decode prog_10_method_10_code 290 = .ok (.aload_n 0, 1) := dd_at dd_Pa_rest 107 rfl
theorem d_Pa_rest_291 : decode prog_10_method_10_code 291 = .ok (.bipush (44), 2) := dd_at dd_Pa_rest 108 rfl
theorem d_Pa_rest_293 : decode prog_10_method_10_code 293 = .ok (.invokevirtual 68, 3) := dd_at dd_Pa_rest 109 rfl
theorem d_Pa_rest_296 : decode prog_10_method_10_code 296 = .ok (.ifCond .eq (23), 3) := dd_at dd_Pa_rest 110 rfl
theorem d_Pa_rest_299 : decode prog_10_method_10_code 299 = .ok (.aload_n 0, 1) := dd_at dd_Pa_rest 111 rfl
theorem d_Pa_rest_300 : decode prog_10_method_10_code 300 = .ok (.invokevirtual 145, 3) := dd_at dd_Pa_rest 112 rfl
theorem d_Pa_rest_303 : decode prog_10_method_10_code 303 = .ok (.ifCond .eq (16), 3) := dd_at dd_Pa_rest 113 rfl
theorem d_Pa_rest_306 : decode prog_10_method_10_code 306 = .ok (.aload_n 0, 1) := dd_at dd_Pa_rest 114 rfl
theorem d_Pa_rest_307 : decode prog_10_method_10_code 307 = .ok (.bipush (41), 2) := dd_at dd_Pa_rest 115 rfl
theorem d_Pa_rest_309 : decode prog_10_method_10_code 309 = .ok (.invokevirtual 68, 3) := dd_at dd_Pa_rest 116 rfl
theorem d_Pa_rest_312 : decode prog_10_method_10_code 312 = .ok (.ifCond .eq (7), 3) := dd_at dd_Pa_rest 117 rfl
theorem d_Pa_rest_315 : decode prog_10_method_10_code 315 = .ok (.iconst 1, 1) := dd_at dd_Pa_rest 118 rfl
theorem d_Pa_rest_316 : decode prog_10_method_10_code 316 = .ok (.goto (4), 3) := dd_at dd_Pa_rest 119 rfl
theorem d_Pa_rest_319 : decode prog_10_method_10_code 319 = .ok (.iconst 0, 1) := dd_at dd_Pa_rest 120 rfl
theorem d_Pa_rest_320 : decode prog_10_method_10_code 320 = .ok (.ireturn, 1) := dd_at dd_Pa_rest 121 rfl
theorem d_Pa_rest_321 : decode prog_10_method_10_code 321 = .ok (.aload_n 0, 1) := dd_at dd_Pa_rest 122 rfl
theorem d_Pa_rest_322 : decode prog_10_method_10_code 322 = .ok (.invokevirtual 148, 3) := dd_at dd_Pa_rest 123 rfl
theorem d_Pa_rest_325 : decode prog_10_method_10_code 325 = .ok (.ifCond .eq (48), 3) := dd_at dd_Pa_rest 124 rfl
theorem d_Pa_rest_328 : decode prog_10_method_10_code 328 = .ok (.aload_n 0, 1) := dd_at dd_Pa_rest 125 rfl
theorem d_Pa_rest_329 : decode prog_10_method_10_code 329 = .ok (.bipush (40), 2) := dd_at dd_Pa_rest 126 rfl
theorem d_Pa_rest_331 : decode prog_10_method_10_code 331 = .ok (.invokevirtual 68, 3) := dd_at dd_Pa_rest 127 rfl
theorem d_Pa_rest_334 : decode prog_10_method_10_code 334 = .ok (.ifCond .eq (39), 3) := dd_at dd_Pa_rest 128 rfl
theorem d_Pa_rest_337 : decode prog_10_method_10_code 337 = .ok (.aload_n 0, 1) := dd_at dd_Pa_rest 129 rfl
theorem d_Pa_rest_338 : decode prog_10_method_10_code 338 = .ok (.invokevirtual 131, 3) := dd_at dd_Pa_rest 130 rfl
theorem d_Pa_rest_341 : decode prog_10_method_10_code 341 = .ok (.ifCond .eq (32), 3) := dd_at dd_Pa_rest 131 rfl
theorem d_Pa_rest_344 : decode prog_10_method_10_code 344 = .ok (.aload_n 0, 1) := dd_at dd_Pa_rest 132 rfl
theorem d_Pa_rest_345 : decode prog_10_method_10_code 345 = .ok (.bipush (41), 2) := dd_at dd_Pa_rest 133 rfl
theorem d_Pa_rest_347 : decode prog_10_method_10_code 347 = .ok (.invokevirtual 68, 3) := dd_at dd_Pa_rest 134 rfl
theorem d_Pa_rest_350 : decode prog_10_method_10_code 350 = .ok (.ifCond .eq (23), 3) := dd_at dd_Pa_rest 135 rfl
theorem d_Pa_rest_353 : decode prog_10_method_10_code 353 = .ok (.aload_n 0, 1) := dd_at dd_Pa_rest 136 rfl
theorem d_Pa_rest_354 : decode prog_10_method_10_code 354 = .ok (.bipush (61), 2) := dd_at dd_Pa_rest 137 rfl
theorem d_Pa_rest_356 : decode prog_10_method_10_code 356 = .ok (.invokevirtual 68, 3) := dd_at dd_Pa_rest 138 rfl
theorem d_Pa_rest_359 : decode prog_10_method_10_code 359 = .ok (.ifCond .eq (14), 3) := dd_at dd_Pa_rest 139 rfl
theorem d_Pa_rest_362 : decode prog_10_method_10_code 362 = .ok (.aload_n 0, 1) := dd_at dd_Pa_rest 140 rfl
theorem d_Pa_rest_363 : decode prog_10_method_10_code 363 = .ok (.invokevirtual 112, 3) := dd_at dd_Pa_rest 141 rfl
theorem d_Pa_rest_366 : decode prog_10_method_10_code 366 = .ok (.ifCond .eq (7), 3) := dd_at dd_Pa_rest 142 rfl
theorem d_Pa_rest_369 : decode prog_10_method_10_code 369 = .ok (.iconst 1, 1) := dd_at dd_Pa_rest 143 rfl
theorem d_Pa_rest_370 : decode prog_10_method_10_code 370 = .ok (.goto (4), 3) := dd_at dd_Pa_rest 144 rfl
theorem d_Pa_rest_373 : decode prog_10_method_10_code 373 = .ok (.iconst 0, 1) := dd_at dd_Pa_rest 145 rfl
theorem d_Pa_rest_374 : decode prog_10_method_10_code 374 = .ok (.ireturn, 1) := dd_at dd_Pa_rest 146 rfl
theorem d_Pa_rest_375 : decode prog_10_method_10_code 375 = .ok (.aload_n 0, 1) := dd_at dd_Pa_rest 147 rfl
theorem d_Pa_rest_376 : decode prog_10_method_10_code 376 = .ok (.invokevirtual 142, 3) := dd_at dd_Pa_rest 148 rfl
theorem d_Pa_rest_379 : decode prog_10_method_10_code 379 = .ok (.ifCond .eq (23), 3) := dd_at dd_Pa_rest 149 rfl
theorem d_Pa_rest_382 : decode prog_10_method_10_code 382 = .ok (.aload_n 0, 1) := dd_at dd_Pa_rest 150 rfl
theorem d_Pa_rest_383 : decode prog_10_method_10_code 383 = .ok (.bipush (61), 2) := dd_at dd_Pa_rest 151 rfl
theorem d_Pa_rest_385 : decode prog_10_method_10_code 385 = .ok (.invokevirtual 68, 3) := dd_at dd_Pa_rest 152 rfl
theorem d_Pa_rest_388 : decode prog_10_method_10_code 388 = .ok (.ifCond .eq (14), 3) := dd_at dd_Pa_rest 153 rfl
theorem d_Pa_rest_391 : decode prog_10_method_10_code 391 = .ok (.aload_n 0, 1) := dd_at dd_Pa_rest 154 rfl
theorem d_Pa_rest_392 : decode prog_10_method_10_code 392 = .ok (.invokevirtual 151, 3) := dd_at dd_Pa_rest 155 rfl
theorem d_Pa_rest_395 : decode prog_10_method_10_code 395 = .ok (.ifCond .eq (7), 3) := dd_at dd_Pa_rest 156 rfl
theorem d_Pa_rest_398 : decode prog_10_method_10_code 398 = .ok (.iconst 1, 1) := dd_at dd_Pa_rest 157 rfl
theorem d_Pa_rest_399 : decode prog_10_method_10_code 399 = .ok (.goto (4), 3) := dd_at dd_Pa_rest 158 rfl
theorem d_Pa_rest_402 : decode prog_10_method_10_code 402 = .ok (.iconst 0, 1) := dd_at dd_Pa_rest 159 rfl
theorem d_Pa_rest_403 : decode prog_10_method_10_code 403 = .ok (.ireturn, 1) := dd_at dd_Pa_rest 160 rfl
theorem d_Pa_rest_404 : decode prog_10_method_10_code 404 = .ok (.aload_n 0, 1) := dd_at dd_Pa_rest 161 rfl
theorem d_Pa_rest_405 : decode prog_10_method_10_code 405 = .ok (.invokevirtual 154, 3) := dd_at dd_Pa_rest 162 rfl
theorem d_Pa_rest_408 : decode prog_10_method_10_code 408 = .ok (.ireturn, 1) := dd_at dd_Pa_rest 163 rfl
theorem d_Pa_rest_409 : decode prog_10_method_10_code 409 = .ok (.iconst 1, 1) := dd_at dd_Pa_rest 164 rfl
theorem d_Pa_rest_410 : decode prog_10_method_10_code 410 = .ok (.ireturn, 1) := dd_at dd_Pa_rest 165 rfl
def ld_Pa_takeApart : List (Nat × Instr × Nat) := [(0, .aload_n 0, 1), (1, .aload_n 1, 1), (2, .iload_n 2, 1), (3, .invokevirtual 22, 3), (6, .aload_n 0, 1), (7, .iconst 0, 1), (8, .putfield 26, 3), (11, .aload_n 0, 1), (12, .iconst 0, 1), (13, .putfield 30, 3), (16, .aload_n 0, 1), (17, .getfield 12, 3), (20, .invokevirtual 33, 3), (23, .aload_n 0, 1), (24, .invokevirtual 36, 3), (27, .ifCond .ne (5), 3), (30, .iconst 0, 1), (31, .ireturn, 1), (32, .aload_n 0, 1), (33, .getfield 12, 3), (36, .aload_n 0, 1), (37, .getfield 40, 3), (40, .putfield 43, 3), (43, .aload_n 0, 1), (44, .getfield 12, 3), (47, .aload_n 0, 1), (48, .getfield 26, 3), (51, .aload_n 0, 1), (52, .getfield 46, 3), (55, .if_icmp .ne (7), 3), (58, .iconst 1, 1), (59, .goto (4), 3), (62, .iconst 0, 1), (63, .putfield 49, 3), (66, .aload_n 0, 1), (67, .getfield 12, 3), (70, .getfield 49, 3), (73, .ifCond .ne (28), 3), (76, .aload_n 0, 1), (77, .invokevirtual 53, 3), (80, .ifCond .eq (25), 3), (83, .aload_n 0, 1), (84, .invokevirtual 56, 3), (87, .ifCond .eq (18), 3), (90, .aload_n 0, 1), (91, .getfield 26, 3), (94, .aload_n 0, 1), (95, .getfield 46, 3), (98, .if_icmp .ne (7), 3), (101, .iconst 1, 1), (102, .goto (4), 3), (105, .iconst 0, 1), (106, .ireturn, 1)]
theorem dd_Pa_takeApart : (ld_Pa_takeApart).all (dOK prog_10_method_2_code) = true := by decide +kernel
theorem d_Pa_takeApart_0 : decode prog_10_method_2_code 0 = .ok (.aload_n 0, 1) := dd_at dd_Pa_takeApart 0 rfl
theorem d_Pa_takeApart_1 : decode prog_10_method_2_code 1 = .ok (.aload_n 1, 1) := dd_at dd_Pa_takeApart 1 rfl
theorem d_Pa_takeApart_2 : decode prog_10_method_2_code 2 = .ok (.iload_n 2, 1) := dd_at dd_Pa_takeApart 2 rfl
theorem d_Pa_takeApart_3 : decode prog_10_method_2_code 3 = .ok (.invokevirtual 22, 3) := dd_at dd_Pa_takeApart 3 rfl
theorem d_Pa_takeApart_6 : decode prog_10_method_2_code 6 = .ok (.aload_n 0, 1) := dd_at dd_Pa_takeApart 4 rfl
theorem d_Pa_takeApart_7 : decode prog_10_method_2_code 7 = .ok (.iconst 0, 1) := dd_at dd_Pa_takeApart 5 rfl
theorem d_Pa_takeApart_8 : decode prog_10_method_2_code 8 = .ok (.putfield 26, 3) := dd_at dd_Pa_takeApart 6 rfl
theorem d_Pa_takeApart_11 : decode prog_10_method_2_code 11 = .ok (.aload_n 0, 1) := dd_at dd_Pa_takeApart 7 rfl
theorem d_Pa_takeApart_12 : decode prog_10_method_2_code 12 = .ok (.iconst 0, 1) := dd_at dd_Pa_takeApart 8 rfl
theorem d_Pa_takeApart_13 : decode prog_10_method_2_code 13 = .ok (.putfield 30, 3) := dd_at dd_Pa_takeApart 9 rfl
theorem d_Pa_takeApart_16 : decode prog_10_method_2_code 16 = .ok (.aload_n 0, 1) := dd_at dd_Pa_takeApart 10 rfl
theorem d_Pa_takeApart_17 : decode prog_10_method_2_code 17 = .ok (.getfield 12, 3) := dd_at dd_Pa_takeApart 11 rfl
theorem d_Pa_takeApart_20 : decode prog_10_method_2_code 20 = .ok (.invokevirtual 33, 3) := dd_at dd_Pa_takeApart 12 rfl
theorem d_Pa_takeApart_23 : decode prog_10_method_2_code 23 = .ok (.aload_n 0, 1) := dd_at dd_Pa_takeApart 13 rfl
theorem d_Pa_takeApart_24 : decode prog_10_method_2_code 24 = .ok (.invokevirtual 36, 3) := dd_at dd_Pa_takeApart 14 rfl
theorem d_Pa_takeApart_27 : decode prog_10_method_2_code 27 = .ok (.ifCond .ne (5), 3) := dd_at dd_Pa_takeApart 15 rfl
theorem d_Pa_takeApart_30 : decode prog_10_method_2_code 30 = .ok (.iconst 0, 1) := dd_at dd_Pa_takeApart 16 rfl
theorem d_Pa_takeApart_31 : decode prog_10_method_2_code 31 = .ok (.ireturn, 1) := dd_at dd_Pa_takeApart 17 rfl
theorem d_Pa_takeApart_32 : decode prog_10_method_2_code 32 = .ok (.aload_n 0, 1) := dd_at dd_Pa_takeApart 18 rfl
theorem d_Pa_takeApart_33 : decode prog_10_method_2_code 33 = .ok (.getfield 12, 3) := dd_at dd_Pa_takeApart 19 rfl
theorem d_Pa_takeApart_36 : decode prog_10_method_2_code 36 = .ok (.aload_n 0, 1) := dd_at dd_Pa_takeApart 20 rfl
theorem d_Pa_takeApart_37 : decode prog_10_method_2_code 37 = .ok (.getfield 40, 3) := dd_at dd_Pa_takeApart 21 rfl
theorem d_Pa_takeApart_40 : decode prog_10_method_2_code 40 = .ok (.putfield 43, 3) := dd_at dd_Pa_takeApart 22 rfl
theorem d_Pa_takeApart_43 : decode prog_10_method_2_code 43 = .ok (.aload_n 0, 1) := dd_at dd_Pa_takeApart 23 rfl
theorem d_Pa_takeApart_44 : decode prog_10_method_2_code 44 = .ok (.getfield 12, 3) := dd_at dd_Pa_takeApart 24 rfl
theorem d_Pa_takeApart_47 : decode prog_10_method_2_code 47 = .ok (.aload_n 0, 1) := dd_at dd_Pa_takeApart 25 rfl
theorem d_Pa_takeApart_48 : decode prog_10_method_2_code 48 = .ok (.getfield 26, 3) := dd_at dd_Pa_takeApart 26 rfl
theorem d_Pa_takeApart_51 : decode prog_10_method_2_code 51 = .ok (.aload_n 0, 1) := dd_at dd_Pa_takeApart 27 rfl
theorem d_Pa_takeApart_52 : decode prog_10_method_2_code 52 = .ok (.getfield 46, 3) := dd_at dd_Pa_takeApart 28 rfl
theorem d_Pa_takeApart_55 : decode prog_10_method_2_code 55 = .ok (.if_icmp .ne (7), 3) := dd_at dd_Pa_takeApart 29 rfl
theorem d_Pa_takeApart_58 : decode prog_10_method_2_code 58 = .ok (.iconst 1, 1) := dd_at dd_Pa_takeApart 30 rfl
theorem d_Pa_takeApart_59 : decode prog_10_method_2_code 59 = .ok (.goto (4), 3) := dd_at dd_Pa_takeApart 31 rfl
theorem d_Pa_takeApart_62 : decode prog_10_method_2_code 62 = .ok (.iconst 0, 1) := dd_at dd_Pa_takeApart 32 rfl
theorem d_Pa_takeApart_63 : decode prog_10_method_2_code 63 = .ok (.putfield 49, 3) := dd_at dd_Pa_takeApart 33 rfl
theorem d_Pa_takeApart_66 : decode prog_10_method_2_code 66 = .ok (.aload_n 0, 1) := dd_at dd_Pa_takeApart 34 rfl
theorem d_Pa_takeApart_67 : decode prog_10_method_2_code 67 = .ok (.getfield 12, 3) := dd_at dd_Pa_takeApart 35 rfl
theorem d_Pa_takeApart_70 : decode prog_10_method_2_code 70 = .ok (.getfield 49, 3) := dd_at dd_Pa_takeApart 36 rfl
theorem d_Pa_takeApart_73 : decode prog_10_method_2_code 73 = .ok (.ifCond .ne (28), 3) := dd_at dd_Pa_takeApart 37 rfl
theorem d_Pa_takeApart_76 : decode prog_10_method_2_code 76 = .ok (.aload_n 0, 1) := dd_at dd_Pa_takeApart 38 rfl
theorem d_Pa_takeApart_77 : decode prog_10_method_2_code 77 = .ok (.invokevirtual 53, 3) := dd_at dd_Pa_takeApart 39 rfl
theorem d_Pa_takeApart_80 : decode prog_10_method_2_code 80 = .ok (.ifCond .eq (25), 3) := dd_at dd_Pa_takeApart 40 rfl
theorem d_Pa_takeApart_83 : decode prog_10_method_2_code 83 = .ok (.aload_n 0, 1) := dd_at dd_Pa_takeApart 41 rfl
theorem d_Pa_takeApart_84 : decode prog_10_method_2_code 84 = .ok (.invokevirtual 56, 3) := dd_at dd_Pa_takeApart 42 rfl
theorem d_Pa_takeApart_87 : decode prog_10_method_2_code 87 = .ok (.ifCond .eq (18), 3) := dd_at dd_Pa_takeApart 43 rfl
theorem d_Pa_takeApart_90 : decode prog_10_method_2_code 90 = .ok (.aload_n 0, 1) := dd_at dd_Pa_takeApart 44 rfl
theorem d_Pa_takeApart_91 : decode prog_10_method_2_code 91 = .ok (.getfield 26, 3) := dd_at dd_Pa_takeApart 45 rfl
theorem d_Pa_takeApart_94 : decode prog_10_method_2_code 94 = .ok (.aload_n 0, 1) := dd_at dd_Pa_takeApart 46 rfl
theorem d_Pa_takeApart_95 : decode prog_10_method_2_code 95 = .ok (.getfield 46, 3) := dd_at dd_Pa_takeApart 47 rfl
theorem d_Pa_takeApart_98 : decode prog_10_method_2_code 98 = .ok (.if_icmp .ne (7), 3) := dd_at dd_Pa_takeApart 48 rfl
theorem d_Pa_takeApart_101 : decode prog_10_method_2_code 101 = .ok (.iconst 1, 1) := dd_at dd_Pa_takeApart 49 rfl
theorem d_Pa_takeApart_102 : decode prog_10_method_2_code 102 = .ok (.goto (4), 3) := dd_at dd_Pa_takeApart 50 rfl
theorem d_Pa_takeApart_105 : decode prog_10_method_2_code 105 = .ok (.iconst 0, 1) := dd_at dd_Pa_takeApart 51 rfl
theorem d_Pa_takeApart_106 : decode prog_10_method_2_code 106 = .ok (.ireturn, 1) := dd_at dd_Pa_takeApart 52 rfl
