def dOK (cc : ByteArray) : Nat × Instr × Nat → Bool
  | (pc, i, n) => decide (decode cc pc = .ok (i, n))
theorem dOK_of {cc : ByteArray} {pc n : Nat} {i : Instr} (h : dOK cc (pc, i, n) = true) : decode cc pc = .ok (i, n) := by
  unfold dOK at h
  exact of_decide_eq_true h
theorem dd_at {cc : ByteArray} {L : List (Nat × Instr × Nat)} (h : L.all (dOK cc) = true) (k : Nat) {pc n : Nat} {i : Instr} (hk : L[k]? = some (pc, i, n)) : decode cc pc = .ok (i, n) := dOK_of (List.all_eq_true.mp h _ (List.mem_of_getElem? hk))
def ld_Mo_thrown : List (Nat × Instr × Nat) := [(0, .aload_n 0, 1), (1, .getfield 7, 3), (4, .ireturn, 1)]
theorem dd_Mo_thrown : (ld_Mo_thrown).all (dOK prog_14_method_2_code) = true := by decide +kernel
theorem d_Mo_thrown_0 : decode prog_14_method_2_code 0 = .ok (.aload_n 0, 1) := dd_at dd_Mo_thrown 0 rfl
theorem d_Mo_thrown_1 : decode prog_14_method_2_code 1 = .ok (.getfield 7, 3) := dd_at dd_Mo_thrown 1 rfl
theorem d_Mo_thrown_4 : decode prog_14_method_2_code 4 = .ok (.ireturn, 1) := dd_at dd_Mo_thrown 2 rfl
def ld_Mo_refuse : List (Nat × Instr × Nat) := [(0, .aload_n 0, 1), (1, .iload_n 1, 1), (2, .putfield 7, 3), (5, .iconst 0, 1), (6, .ireturn, 1)]
theorem dd_Mo_refuse : (ld_Mo_refuse).all (dOK prog_14_method_3_code) = true := by decide +kernel
theorem d_Mo_refuse_0 : decode prog_14_method_3_code 0 = .ok (.aload_n 0, 1) := dd_at dd_Mo_refuse 0 rfl
theorem d_Mo_refuse_1 : decode prog_14_method_3_code 1 = .ok (.iload_n 1, 1) := dd_at dd_Mo_refuse 1 rfl
theorem d_Mo_refuse_2 : decode prog_14_method_3_code 2 = .ok (.putfield 7, 3) := dd_at dd_Mo_refuse 2 rfl
theorem d_Mo_refuse_5 : decode prog_14_method_3_code 5 = .ok (.iconst 0, 1) := dd_at dd_Mo_refuse 3 rfl
theorem d_Mo_refuse_6 : decode prog_14_method_3_code 6 = .ok (.ireturn, 1) := dd_at dd_Mo_refuse 4 rfl
def ld_Mo_fine : List (Nat × Instr × Nat) := [(0, .aload_n 0, 1), (1, .iconst 0, 1), (2, .putfield 7, 3), (5, .iload_n 1, 1), (6, .ireturn, 1)]
theorem dd_Mo_fine : (ld_Mo_fine).all (dOK prog_14_method_4_code) = true := by decide +kernel
theorem d_Mo_fine_0 : decode prog_14_method_4_code 0 = .ok (.aload_n 0, 1) := dd_at dd_Mo_fine 0 rfl
theorem d_Mo_fine_1 : decode prog_14_method_4_code 1 = .ok (.iconst 0, 1) := dd_at dd_Mo_fine 1 rfl
theorem d_Mo_fine_2 : decode prog_14_method_4_code 2 = .ok (.putfield 7, 3) := dd_at dd_Mo_fine 2 rfl
theorem d_Mo_fine_5 : decode prog_14_method_4_code 5 = .ok (.iload_n 1, 1) := dd_at dd_Mo_fine 3 rfl
theorem d_Mo_fine_6 : decode prog_14_method_4_code 6 = .ok (.ireturn, 1) := dd_at dd_Mo_fine 4 rfl
def ld_Mo_type : List (Nat × Instr × Nat) := [(0, .iload_n 1, 1), (1, .ifCond .lt (9), 3), (4, .iload_n 1, 1), (5, .bipush (127), 2), (7, .if_icmp .le (9), 3), (10, .aload_n 0, 1), (11, .iconst 1, 1), (12, .invokevirtual 149, 3), (15, .ireturn, 1), (16, .aload_n 0, 1), (17, .getfield 13, 3), (20, .bipush (60), 2), (22, .if_icmp .ne (9), 3), (25, .aload_n 0, 1), (26, .iconst 2, 1), (27, .invokevirtual 149, 3), (30, .ireturn, 1), (31, .aload_n 0, 1), (32, .getfield 35, 3), (35, .aload_n 0, 1), (36, .getfield 13, 3), (39, .iload_n 1, 1), (40, .i2c, 1), (41, .castore, 1), (42, .aload_n 0, 1), (43, .dup, 1), (44, .getfield 13, 3), (47, .iconst 1, 1), (48, .iadd, 1), (49, .putfield 13, 3), (52, .aload_n 0, 1), (53, .aload_n 0, 1), (54, .getfield 13, 3), (57, .invokevirtual 153, 3), (60, .ireturn, 1)]
theorem dd_Mo_type : (ld_Mo_type).all (dOK prog_14_method_5_code) = true := by decide +kernel
theorem d_Mo_type_0 : decode prog_14_method_5_code 0 = .ok (.iload_n 1, 1) := dd_at dd_Mo_type 0 rfl
theorem d_Mo_type_1 : decode prog_14_method_5_code 1 = .ok (.ifCond .lt (9), 3) := dd_at dd_Mo_type 1 rfl
theorem d_Mo_type_4 : decode prog_14_method_5_code 4 = .ok (.iload_n 1, 1) := dd_at dd_Mo_type 2 rfl
theorem d_Mo_type_5 : decode prog_14_method_5_code 5 = .ok (.bipush (127), 2) := dd_at dd_Mo_type 3 rfl
theorem d_Mo_type_7 : decode prog_14_method_5_code 7 = .ok (.if_icmp .le (9), 3) := dd_at dd_Mo_type 4 rfl
theorem d_Mo_type_10 : decode prog_14_method_5_code 10 = .ok (.aload_n 0, 1) := dd_at dd_Mo_type 5 rfl
theorem d_Mo_type_11 : decode prog_14_method_5_code 11 = .ok (.iconst 1, 1) := dd_at dd_Mo_type 6 rfl
theorem d_Mo_type_12 : decode prog_14_method_5_code 12 = .ok (.invokevirtual 149, 3) := dd_at dd_Mo_type 7 rfl
theorem d_Mo_type_15 : decode prog_14_method_5_code 15 = .ok (.ireturn, 1) := dd_at dd_Mo_type 8 rfl
theorem d_Mo_type_16 : decode prog_14_method_5_code 16 = .ok (.aload_n 0, 1) := dd_at dd_Mo_type 9 rfl
theorem d_Mo_type_17 : decode prog_14_method_5_code 17 = .ok (.getfield 13, 3) := dd_at dd_Mo_type 10 rfl
theorem d_Mo_type_20 : decode prog_14_method_5_code 20 = .ok (.bipush (60), 2) := dd_at dd_Mo_type 11 rfl
theorem d_Mo_type_22 : decode prog_14_method_5_code 22 = .ok (.if_icmp .ne (9), 3) := dd_at dd_Mo_type 12 rfl
theorem d_Mo_type_25 : decode prog_14_method_5_code 25 = .ok (.aload_n 0, 1) := dd_at dd_Mo_type 13 rfl
theorem d_Mo_type_26 : decode prog_14_method_5_code 26 = .ok (.iconst 2, 1) := dd_at dd_Mo_type 14 rfl
theorem d_Mo_type_27 : decode prog_14_method_5_code 27 = .ok (.invokevirtual 149, 3) := dd_at dd_Mo_type 15 rfl
theorem d_Mo_type_30 : decode prog_14_method_5_code 30 = .ok (.ireturn, 1) := dd_at dd_Mo_type 16 rfl
theorem d_Mo_type_31 : decode prog_14_method_5_code 31 = .ok (.aload_n 0, 1) := dd_at dd_Mo_type 17 rfl
theorem d_Mo_type_32 : decode prog_14_method_5_code 32 = .ok (.getfield 35, 3) := dd_at dd_Mo_type 18 rfl
theorem d_Mo_type_35 : decode prog_14_method_5_code 35 = .ok (.aload_n 0, 1) := dd_at dd_Mo_type 19 rfl
theorem d_Mo_type_36 : decode prog_14_method_5_code 36 = .ok (.getfield 13, 3) := dd_at dd_Mo_type 20 rfl
theorem d_Mo_type_39 : decode prog_14_method_5_code 39 = .ok (.iload_n 1, 1) := dd_at dd_Mo_type 21 rfl
theorem d_Mo_type_40 : decode prog_14_method_5_code 40 = .ok (.i2c, 1) := dd_at dd_Mo_type 22 rfl
theorem d_Mo_type_41 : decode prog_14_method_5_code 41 = .ok (.castore, 1) := dd_at dd_Mo_type 23 rfl
theorem d_Mo_type_42 : decode prog_14_method_5_code 42 = .ok (.aload_n 0, 1) := dd_at dd_Mo_type 24 rfl
theorem d_Mo_type_43 : decode prog_14_method_5_code 43 = .ok (.dup, 1) := dd_at dd_Mo_type 25 rfl
theorem d_Mo_type_44 : decode prog_14_method_5_code 44 = .ok (.getfield 13, 3) := dd_at dd_Mo_type 26 rfl
theorem d_Mo_type_47 : decode prog_14_method_5_code 47 = .ok (.iconst 1, 1) := dd_at dd_Mo_type 27 rfl
theorem d_Mo_type_48 : decode prog_14_method_5_code 48 = .ok (.iadd, 1) := dd_at dd_Mo_type 28 rfl
theorem d_Mo_type_49 : decode prog_14_method_5_code 49 = .ok (.putfield 13, 3) := dd_at dd_Mo_type 29 rfl
theorem d_Mo_type_52 : decode prog_14_method_5_code 52 = .ok (.aload_n 0, 1) := dd_at dd_Mo_type 30 rfl
theorem d_Mo_type_53 : decode prog_14_method_5_code 53 = .ok (.aload_n 0, 1) := dd_at dd_Mo_type 31 rfl
theorem d_Mo_type_54 : decode prog_14_method_5_code 54 = .ok (.getfield 13, 3) := dd_at dd_Mo_type 32 rfl
theorem d_Mo_type_57 : decode prog_14_method_5_code 57 = .ok (.invokevirtual 153, 3) := dd_at dd_Mo_type 33 rfl
theorem d_Mo_type_60 : decode prog_14_method_5_code 60 = .ok (.ireturn, 1) := dd_at dd_Mo_type 34 rfl
def ld_Mo_look : List (Nat × Instr × Nat) := [(0, .aload_n 0, 1), (1, .getfield 22, 3), (4, .aload_n 0, 1), (5, .getfield 16, 3), (8, .if_icmp .ge (15), 3), (11, .aload_n 0, 1), (12, .getfield 39, 3), (15, .aload_n 0, 1), (16, .getfield 22, 3), (19, .caload, 1), (20, .goto (4), 3), (23, .iconst 0, 1), (24, .ireturn, 1)]
theorem dd_Mo_look : (ld_Mo_look).all (dOK prog_14_method_6_code) = true := by decide +kernel
theorem d_Mo_look_0 : decode prog_14_method_6_code 0 = .ok (.aload_n 0, 1) := dd_at dd_Mo_look 0 rfl
theorem d_Mo_look_1 : decode prog_14_method_6_code 1 = .ok (.getfield 22, 3) := dd_at dd_Mo_look 1 rfl
theorem d_Mo_look_4 : decode prog_14_method_6_code 4 = .ok (.aload_n 0, 1) := dd_at dd_Mo_look 2 rfl
theorem d_Mo_look_5 : decode prog_14_method_6_code 5 = .ok (.getfield 16, 3) := dd_at dd_Mo_look 3 rfl
theorem d_Mo_look_8 : decode prog_14_method_6_code 8 = .ok (.if_icmp .ge (15), 3) := dd_at dd_Mo_look 4 rfl
theorem d_Mo_look_11 : decode prog_14_method_6_code 11 = .ok (.aload_n 0, 1) := dd_at dd_Mo_look 5 rfl
theorem d_Mo_look_12 : decode prog_14_method_6_code 12 = .ok (.getfield 39, 3) := dd_at dd_Mo_look 6 rfl
theorem d_Mo_look_15 : decode prog_14_method_6_code 15 = .ok (.aload_n 0, 1) := dd_at dd_Mo_look 7 rfl
theorem d_Mo_look_16 : decode prog_14_method_6_code 16 = .ok (.getfield 22, 3) := dd_at dd_Mo_look 8 rfl
theorem d_Mo_look_19 : decode prog_14_method_6_code 19 = .ok (.caload, 1) := dd_at dd_Mo_look 9 rfl
theorem d_Mo_look_20 : decode prog_14_method_6_code 20 = .ok (.goto (4), 3) := dd_at dd_Mo_look 10 rfl
theorem d_Mo_look_23 : decode prog_14_method_6_code 23 = .ok (.iconst 0, 1) := dd_at dd_Mo_look 11 rfl
theorem d_Mo_look_24 : decode prog_14_method_6_code 24 = .ok (.ireturn, 1) := dd_at dd_Mo_look 12 rfl
def ld_Mo_lookAt : List (Nat × Instr × Nat) := [(0, .aload_n 0, 1), (1, .getfield 22, 3), (4, .iload_n 1, 1), (5, .iadd, 1), (6, .aload_n 0, 1), (7, .getfield 16, 3), (10, .if_icmp .ge (17), 3), (13, .aload_n 0, 1), (14, .getfield 39, 3), (17, .aload_n 0, 1), (18, .getfield 22, 3), (21, .iload_n 1, 1), (22, .iadd, 1), (23, .caload, 1), (24, .goto (4), 3), (27, .iconst 0, 1), (28, .ireturn, 1)]
theorem dd_Mo_lookAt : (ld_Mo_lookAt).all (dOK prog_14_method_7_code) = true := by decide +kernel
theorem d_Mo_lookAt_0 : decode prog_14_method_7_code 0 = .ok (.aload_n 0, 1) := dd_at dd_Mo_lookAt 0 rfl
theorem d_Mo_lookAt_1 : decode prog_14_method_7_code 1 = .ok (.getfield 22, 3) := dd_at dd_Mo_lookAt 1 rfl
theorem d_Mo_lookAt_4 : decode prog_14_method_7_code 4 = .ok (.iload_n 1, 1) := dd_at dd_Mo_lookAt 2 rfl
theorem d_Mo_lookAt_5 : decode prog_14_method_7_code 5 = .ok (.iadd, 1) := dd_at dd_Mo_lookAt 3 rfl
theorem d_Mo_lookAt_6 : decode prog_14_method_7_code 6 = .ok (.aload_n 0, 1) := dd_at dd_Mo_lookAt 4 rfl
theorem d_Mo_lookAt_7 : decode prog_14_method_7_code 7 = .ok (.getfield 16, 3) := dd_at dd_Mo_lookAt 5 rfl
theorem d_Mo_lookAt_10 : decode prog_14_method_7_code 10 = .ok (.if_icmp .ge (17), 3) := dd_at dd_Mo_lookAt 6 rfl
theorem d_Mo_lookAt_13 : decode prog_14_method_7_code 13 = .ok (.aload_n 0, 1) := dd_at dd_Mo_lookAt 7 rfl
theorem d_Mo_lookAt_14 : decode prog_14_method_7_code 14 = .ok (.getfield 39, 3) := dd_at dd_Mo_lookAt 8 rfl
theorem d_Mo_lookAt_17 : decode prog_14_method_7_code 17 = .ok (.aload_n 0, 1) := dd_at dd_Mo_lookAt 9 rfl
theorem d_Mo_lookAt_18 : decode prog_14_method_7_code 18 = .ok (.getfield 22, 3) := dd_at dd_Mo_lookAt 10 rfl
theorem d_Mo_lookAt_21 : decode prog_14_method_7_code 21 = .ok (.iload_n 1, 1) := dd_at dd_Mo_lookAt 11 rfl
theorem d_Mo_lookAt_22 : decode prog_14_method_7_code 22 = .ok (.iadd, 1) := dd_at dd_Mo_lookAt 12 rfl
theorem d_Mo_lookAt_23 : decode prog_14_method_7_code 23 = .ok (.caload, 1) := dd_at dd_Mo_lookAt 13 rfl
theorem d_Mo_lookAt_24 : decode prog_14_method_7_code 24 = .ok (.goto (4), 3) := dd_at dd_Mo_lookAt 14 rfl
theorem d_Mo_lookAt_27 : decode prog_14_method_7_code 27 = .ok (.iconst 0, 1) := dd_at dd_Mo_lookAt 15 rfl
theorem d_Mo_lookAt_28 : decode prog_14_method_7_code 28 = .ok (.ireturn, 1) := dd_at dd_Mo_lookAt 16 rfl
def ld_Mo_take : List (Nat × Instr × Nat) := [(0, .aload_n 0, 1), (1, .getfield 31, 3), (4, .ifCond .ne (11), 3), (7, .aload_n 0, 1), (8, .invokevirtual 156, 3), (11, .iload_n 1, 1), (12, .if_icmp .eq (5), 3), (15, .iconst 0, 1), (16, .ireturn, 1), (17, .aload_n 0, 1), (18, .dup, 1), (19, .getfield 22, 3), (22, .iconst 1, 1), (23, .iadd, 1), (24, .putfield 22, 3), (27, .iconst 1, 1), (28, .ireturn, 1)]
theorem dd_Mo_take : (ld_Mo_take).all (dOK prog_14_method_8_code) = true := by decide +kernel
theorem d_Mo_take_0 : decode prog_14_method_8_code 0 = .ok (.aload_n 0, 1) := dd_at dd_Mo_take 0 rfl
theorem d_Mo_take_1 : decode prog_14_method_8_code 1 = .ok (.getfield 31, 3) := dd_at dd_Mo_take 1 rfl
theorem d_Mo_take_4 : decode prog_14_method_8_code 4 = .ok (.ifCond .ne (11), 3) := dd_at dd_Mo_take 2 rfl
theorem d_Mo_take_7 : decode prog_14_method_8_code 7 = .ok (.aload_n 0, 1) := dd_at dd_Mo_take 3 rfl
theorem d_Mo_take_8 : decode prog_14_method_8_code 8 = .ok (.invokevirtual 156, 3) := dd_at dd_Mo_take 4 rfl
theorem d_Mo_take_11 : decode prog_14_method_8_code 11 = .ok (.iload_n 1, 1) := dd_at dd_Mo_take 5 rfl
theorem d_Mo_take_12 : decode prog_14_method_8_code 12 = .ok (.if_icmp .eq (5), 3) := dd_at dd_Mo_take 6 rfl
theorem d_Mo_take_15 : decode prog_14_method_8_code 15 = .ok (.iconst 0, 1) := dd_at dd_Mo_take 7 rfl
theorem d_Mo_take_16 : decode prog_14_method_8_code 16 = .ok (.ireturn, 1) := dd_at dd_Mo_take 8 rfl
theorem d_Mo_take_17 : decode prog_14_method_8_code 17 = .ok (.aload_n 0, 1) := dd_at dd_Mo_take 9 rfl
theorem d_Mo_take_18 : decode prog_14_method_8_code 18 = .ok (.dup, 1) := dd_at dd_Mo_take 10 rfl
theorem d_Mo_take_19 : decode prog_14_method_8_code 19 = .ok (.getfield 22, 3) := dd_at dd_Mo_take 11 rfl
theorem d_Mo_take_22 : decode prog_14_method_8_code 22 = .ok (.iconst 1, 1) := dd_at dd_Mo_take 12 rfl
theorem d_Mo_take_23 : decode prog_14_method_8_code 23 = .ok (.iadd, 1) := dd_at dd_Mo_take 13 rfl
theorem d_Mo_take_24 : decode prog_14_method_8_code 24 = .ok (.putfield 22, 3) := dd_at dd_Mo_take 14 rfl
theorem d_Mo_take_27 : decode prog_14_method_8_code 27 = .ok (.iconst 1, 1) := dd_at dd_Mo_take 15 rfl
theorem d_Mo_take_28 : decode prog_14_method_8_code 28 = .ok (.ireturn, 1) := dd_at dd_Mo_take 16 rfl
def ld_Mo_need : List (Nat × Instr × Nat) := [(0, .aload_n 0, 1), (1, .iload_n 1, 1), (2, .invokevirtual 160, 3), (5, .ifCond .ne (8), 3), (8, .aload_n 0, 1), (9, .iconst 1, 1), (10, .putfield 31, 3), (13, .return_, 1)]
theorem dd_Mo_need : (ld_Mo_need).all (dOK prog_14_method_9_code) = true := by decide +kernel
theorem d_Mo_need_0 : decode prog_14_method_9_code 0 = .ok (.aload_n 0, 1) := dd_at dd_Mo_need 0 rfl
theorem d_Mo_need_1 : decode prog_14_method_9_code 1 = .ok (.iload_n 1, 1) := dd_at dd_Mo_need 1 rfl
theorem d_Mo_need_2 : decode prog_14_method_9_code 2 = .ok (.invokevirtual 160, 3) := dd_at dd_Mo_need 2 rfl
theorem d_Mo_need_5 : decode prog_14_method_9_code 5 = .ok (.ifCond .ne (8), 3) := dd_at dd_Mo_need 3 rfl
theorem d_Mo_need_8 : decode prog_14_method_9_code 8 = .ok (.aload_n 0, 1) := dd_at dd_Mo_need 4 rfl
theorem d_Mo_need_9 : decode prog_14_method_9_code 9 = .ok (.iconst 1, 1) := dd_at dd_Mo_need 5 rfl
theorem d_Mo_need_10 : decode prog_14_method_9_code 10 = .ok (.putfield 31, 3) := dd_at dd_Mo_need 6 rfl
theorem d_Mo_need_13 : decode prog_14_method_9_code 13 = .ok (.return_, 1) := dd_at dd_Mo_need 7 rfl
def ld_Mo_isDigit : List (Nat × Instr × Nat) := [(0, .aload_n 0, 1), (1, .invokevirtual 156, 3), (4, .bipush (48), 2), (6, .if_icmp .lt (16), 3), (9, .aload_n 0, 1), (10, .invokevirtual 156, 3), (13, .bipush (57), 2), (15, .if_icmp .gt (7), 3), (18, .iconst 1, 1), (19, .goto (4), 3), (22, .iconst 0, 1), (23, .ireturn, 1)]
theorem dd_Mo_isDigit : (ld_Mo_isDigit).all (dOK prog_14_method_10_code) = true := by decide +kernel
theorem d_Mo_isDigit_0 : decode prog_14_method_10_code 0 = .ok (.aload_n 0, 1) := dd_at dd_Mo_isDigit 0 rfl
theorem d_Mo_isDigit_1 : decode prog_14_method_10_code 1 = .ok (.invokevirtual 156, 3) := dd_at dd_Mo_isDigit 1 rfl
theorem d_Mo_isDigit_4 : decode prog_14_method_10_code 4 = .ok (.bipush (48), 2) := dd_at dd_Mo_isDigit 2 rfl
theorem d_Mo_isDigit_6 : decode prog_14_method_10_code 6 = .ok (.if_icmp .lt (16), 3) := dd_at dd_Mo_isDigit 3 rfl
theorem d_Mo_isDigit_9 : decode prog_14_method_10_code 9 = .ok (.aload_n 0, 1) := dd_at dd_Mo_isDigit 4 rfl
theorem d_Mo_isDigit_10 : decode prog_14_method_10_code 10 = .ok (.invokevirtual 156, 3) := dd_at dd_Mo_isDigit 5 rfl
theorem d_Mo_isDigit_13 : decode prog_14_method_10_code 13 = .ok (.bipush (57), 2) := dd_at dd_Mo_isDigit 6 rfl
theorem d_Mo_isDigit_15 : decode prog_14_method_10_code 15 = .ok (.if_icmp .gt (7), 3) := dd_at dd_Mo_isDigit 7 rfl
theorem d_Mo_isDigit_18 : decode prog_14_method_10_code 18 = .ok (.iconst 1, 1) := dd_at dd_Mo_isDigit 8 rfl
theorem d_Mo_isDigit_19 : decode prog_14_method_10_code 19 = .ok (.goto (4), 3) := dd_at dd_Mo_isDigit 9 rfl
theorem d_Mo_isDigit_22 : decode prog_14_method_10_code 22 = .ok (.iconst 0, 1) := dd_at dd_Mo_isDigit 10 rfl
theorem d_Mo_isDigit_23 : decode prog_14_method_10_code 23 = .ok (.ireturn, 1) := dd_at dd_Mo_isDigit 11 rfl
def ld_Mo_word : List (Nat × Instr × Nat) := [(0, .iload_n 1, 1), (1, .tableswitch (231) (0) (26) #[(123), (127), (131), (135), (139), (143), (147), (151), (155), (159), (163), (167), (171), (175), (179), (183), (187), (191), (195), (199), (203), (207), (211), (215), (219), (223), (227)], 123), (124, .ldc2_w 164, 3), (127, .lreturn, 1), (128, .ldc2_w 166, 3), (131, .lreturn, 1), (132, .ldc2_w 168, 3), (135, .lreturn, 1), (136, .ldc2_w 170, 3), (139, .lreturn, 1), (140, .ldc2_w 172, 3), (143, .lreturn, 1), (144, .ldc2_w 174, 3), (147, .lreturn, 1), (148, .ldc2_w 176, 3), (151, .lreturn, 1), (152, .ldc2_w 178, 3), (155, .lreturn, 1), (156, .ldc2_w 180, 3), (159, .lreturn, 1), (160, .ldc2_w 182, 3), (163, .lreturn, 1), (164, .ldc2_w 184, 3), (167, .lreturn, 1), (168, .ldc2_w 186, 3), (171, .lreturn, 1), (172, .ldc2_w 188, 3), (175, .lreturn, 1), (176, .ldc2_w 190, 3), (179, .lreturn, 1), (180, .ldc2_w 192, 3), (183, .lreturn, 1), (184, .ldc2_w 194, 3), (187, .lreturn, 1), (188, .ldc2_w 196, 3), (191, .lreturn, 1), (192, .ldc2_w 198, 3), (195, .lreturn, 1), (196, .ldc2_w 200, 3), (199, .lreturn, 1), (200, .ldc2_w 202, 3), (203, .lreturn, 1), (204, .ldc2_w 204, 3), (207, .lreturn, 1), (208, .ldc2_w 206, 3), (211, .lreturn, 1), (212, .ldc2_w 208, 3), (215, .lreturn, 1), (216, .ldc2_w 210, 3), (219, .lreturn, 1), (220, .ldc2_w 212, 3), (223, .lreturn, 1), (224, .ldc2_w 214, 3), (227, .lreturn, 1), (228, .ldc2_w 216, 3), (231, .lreturn, 1), (232, .ldc2_w 218, 3), (235, .lreturn, 1)]
theorem dd_Mo_word : (ld_Mo_word).all (dOK prog_14_method_11_code) = true := by decide +kernel
theorem d_Mo_word_0 : decode prog_14_method_11_code 0 = .ok (.iload_n 1, 1) := dd_at dd_Mo_word 0 rfl
theorem d_Mo_word_1 : decode prog_14_method_11_code 1 = .ok (.tableswitch (231) (0) (26) #[(123), (127), (131), (135), (139), (143), (147), (151), (155), (159), (163), (167), (171), (175), (179), (183), (187), (191), (195), (199), (203), (207), (211), (215), (219), (223), (227)], 123) := dd_at dd_Mo_word 1 rfl
theorem d_Mo_word_124 : decode prog_14_method_11_code 124 = .ok (.ldc2_w 164, 3) := dd_at dd_Mo_word 2 rfl
theorem d_Mo_word_127 : decode prog_14_method_11_code 127 = .ok (.lreturn, 1) := dd_at dd_Mo_word 3 rfl
theorem d_Mo_word_128 : decode prog_14_method_11_code 128 = .ok (.ldc2_w 166, 3) := dd_at dd_Mo_word 4 rfl
theorem d_Mo_word_131 : decode prog_14_method_11_code 131 = .ok (.lreturn, 1) := dd_at dd_Mo_word 5 rfl
theorem d_Mo_word_132 : decode prog_14_method_11_code 132 = .ok (.ldc2_w 168, 3) := dd_at dd_Mo_word 6 rfl
theorem d_Mo_word_135 : decode prog_14_method_11_code 135 = .ok (.lreturn, 1) := dd_at dd_Mo_word 7 rfl
theorem d_Mo_word_136 : decode prog_14_method_11_code 136 = .ok (.ldc2_w 170, 3) := dd_at dd_Mo_word 8 rfl
theorem d_Mo_word_139 : decode prog_14_method_11_code 139 = .ok (.lreturn, 1) := dd_at dd_Mo_word 9 rfl
theorem d_Mo_word_140 : decode prog_14_method_11_code 140 = .ok (.ldc2_w 172, 3) := dd_at dd_Mo_word 10 rfl
theorem d_Mo_word_143 : decode prog_14_method_11_code 143 = .ok (.lreturn, 1) := dd_at dd_Mo_word 11 rfl
theorem d_Mo_word_144 : decode prog_14_method_11_code 144 = .ok (.ldc2_w 174, 3) := dd_at dd_Mo_word 12 rfl
theorem d_Mo_word_147 : decode prog_14_method_11_code 147 = .ok (.lreturn, 1) := dd_at dd_Mo_word 13 rfl
theorem d_Mo_word_148 : decode prog_14_method_11_code 148 = .ok (.ldc2_w 176, 3) := dd_at dd_Mo_word 14 rfl
theorem d_Mo_word_151 : decode prog_14_method_11_code 151 = .ok (.lreturn, 1) := dd_at dd_Mo_word 15 rfl
theorem d_Mo_word_152 : decode prog_14_method_11_code 152 = .ok (.ldc2_w 178, 3) := dd_at dd_Mo_word 16 rfl
theorem d_Mo_word_155 : decode prog_14_method_11_code 155 = .ok (.lreturn, 1) := dd_at dd_Mo_word 17 rfl
theorem d_Mo_word_156 : decode prog_14_method_11_code 156 = .ok (.ldc2_w 180, 3) := dd_at dd_Mo_word 18 rfl
theorem d_Mo_word_159 : decode prog_14_method_11_code 159 = .ok (.lreturn, 1) := dd_at dd_Mo_word 19 rfl
theorem d_Mo_word_160 : decode prog_14_method_11_code 160 = .ok (.ldc2_w 182, 3) := dd_at dd_Mo_word 20 rfl
theorem d_Mo_word_163 : decode prog_14_method_11_code 163 = .ok (.lreturn, 1) := dd_at dd_Mo_word 21 rfl
theorem d_Mo_word_164 : decode prog_14_method_11_code 164 = .ok (.ldc2_w 184, 3) := dd_at dd_Mo_word 22 rfl
theorem d_Mo_word_167 : decode prog_14_method_11_code 167 = .ok (.lreturn, 1) := dd_at dd_Mo_word 23 rfl
theorem d_Mo_word_168 : decode prog_14_method_11_code 168 = .ok (.ldc2_w 186, 3) := dd_at dd_Mo_word 24 rfl
theorem d_Mo_word_171 : decode prog_14_method_11_code 171 = .ok (.lreturn, 1) := dd_at dd_Mo_word 25 rfl
theorem d_Mo_word_172 : decode prog_14_method_11_code 172 = .ok (.ldc2_w 188, 3) := dd_at dd_Mo_word 26 rfl
theorem d_Mo_word_175 : decode prog_14_method_11_code 175 = .ok (.lreturn, 1) := dd_at dd_Mo_word 27 rfl
theorem d_Mo_word_176 : decode prog_14_method_11_code 176 = .ok (.ldc2_w 190, 3) := dd_at dd_Mo_word 28 rfl
theorem d_Mo_word_179 : decode prog_14_method_11_code 179 = .ok (.lreturn, 1) := dd_at dd_Mo_word 29 rfl
theorem d_Mo_word_180 : decode prog_14_method_11_code 180 = .ok (.ldc2_w 192, 3) := dd_at dd_Mo_word 30 rfl
theorem d_Mo_word_183 : decode prog_14_method_11_code 183 = .ok (.lreturn, 1) := dd_at dd_Mo_word 31 rfl
theorem d_Mo_word_184 : decode prog_14_method_11_code 184 = .ok (.ldc2_w 194, 3) := dd_at dd_Mo_word 32 rfl
theorem d_Mo_word_187 : decode prog_14_method_11_code 187 = .ok (.lreturn, 1) := dd_at dd_Mo_word 33 rfl
theorem d_Mo_word_188 : decode prog_14_method_11_code 188 = .ok (.ldc2_w 196, 3) := dd_at dd_Mo_word 34 rfl
theorem d_Mo_word_191 : decode prog_14_method_11_code 191 = .ok (.lreturn, 1) := dd_at dd_Mo_word 35 rfl
theorem d_Mo_word_192 : decode prog_14_method_11_code 192 = .ok (.ldc2_w 198, 3) := dd_at dd_Mo_word 36 rfl
theorem d_Mo_word_195 : decode prog_14_method_11_code 195 = .ok (.lreturn, 1) := dd_at dd_Mo_word 37 rfl
theorem d_Mo_word_196 : decode prog_14_method_11_code 196 = .ok (.ldc2_w 200, 3) := dd_at dd_Mo_word 38 rfl
theorem d_Mo_word_199 : decode prog_14_method_11_code 199 = .ok (.lreturn, 1) := dd_at dd_Mo_word 39 rfl
theorem d_Mo_word_200 : decode prog_14_method_11_code 200 = .ok (.ldc2_w 202, 3) := dd_at dd_Mo_word 40 rfl
theorem d_Mo_word_203 : decode prog_14_method_11_code 203 = .ok (.lreturn, 1) := dd_at dd_Mo_word 41 rfl
theorem d_Mo_word_204 : decode prog_14_method_11_code 204 = .ok (.ldc2_w 204, 3) := dd_at dd_Mo_word 42 rfl
theorem d_Mo_word_207 : decode prog_14_method_11_code 207 = .ok (.lreturn, 1) := dd_at dd_Mo_word 43 rfl
theorem d_Mo_word_208 : decode prog_14_method_11_code 208 = .ok (.ldc2_w 206, 3) := dd_at dd_Mo_word 44 rfl
theorem d_Mo_word_211 : decode prog_14_method_11_code 211 = .ok (.lreturn, 1) := dd_at dd_Mo_word 45 rfl
theorem d_Mo_word_212 : decode prog_14_method_11_code 212 = .ok (.ldc2_w 208, 3) := dd_at dd_Mo_word 46 rfl
theorem d_Mo_word_215 : decode prog_14_method_11_code 215 = .ok (.lreturn, 1) := dd_at dd_Mo_word 47 rfl
theorem d_Mo_word_216 : decode prog_14_method_11_code 216 = .ok (.ldc2_w 210, 3) := dd_at dd_Mo_word 48 rfl
theorem d_Mo_word_219 : decode prog_14_method_11_code 219 = .ok (.lreturn, 1) := dd_at dd_Mo_word 49 rfl
theorem d_Mo_word_220 : decode prog_14_method_11_code 220 = .ok (.ldc2_w 212, 3) := dd_at dd_Mo_word 50 rfl
theorem d_Mo_word_223 : decode prog_14_method_11_code 223 = .ok (.lreturn, 1) := dd_at dd_Mo_word 51 rfl
theorem d_Mo_word_224 : decode prog_14_method_11_code 224 = .ok (.ldc2_w 214, 3) := dd_at dd_Mo_word 52 rfl
theorem d_Mo_word_227 : decode prog_14_method_11_code 227 = .ok (.lreturn, 1) := dd_at dd_Mo_word 53 rfl
theorem d_Mo_word_228 : decode prog_14_method_11_code 228 = .ok (.ldc2_w 216, 3) := dd_at dd_Mo_word 54 rfl
theorem d_Mo_word_231 : decode prog_14_method_11_code 231 = .ok (.lreturn, 1) := dd_at dd_Mo_word 55 rfl
theorem d_Mo_word_232 : decode prog_14_method_11_code 232 = .ok (.ldc2_w 218, 3) := dd_at dd_Mo_word 56 rfl
theorem d_Mo_word_235 : decode prog_14_method_11_code 235 = .ok (.lreturn, 1) := dd_at dd_Mo_word 57 rfl
def ld_Mo_letters : List (Nat × Instr × Nat) := [(0, .iconst 0, 1), (1, .istore_n 3, 1), (2, .lload_n 1, 1), (3, .lstore 4, 2), (5, .lload 4, 2), (7, .lconst 0, 1), (8, .lcmp, 1), (9, .ifCond .eq (16), 3), (12, .iinc 3 (1), 3), (15, .lload 4, 2), (17, .bipush (8), 2), (19, .lshr, 1), (20, .lstore 4, 2), (22, .goto (-17), 3), (25, .iload_n 3, 1), (26, .ireturn, 1)]
theorem dd_Mo_letters : (ld_Mo_letters).all (dOK prog_14_method_12_code) = true := by decide +kernel
theorem d_Mo_letters_0 : decode prog_14_method_12_code 0 = .ok (.iconst 0, 1) := dd_at dd_Mo_letters 0 rfl
theorem d_Mo_letters_1 : decode prog_14_method_12_code 1 = .ok (.istore_n 3, 1) := dd_at dd_Mo_letters 1 rfl
theorem d_Mo_letters_2 : decode prog_14_method_12_code 2 = .ok (.lload_n 1, 1) := dd_at dd_Mo_letters 2 rfl
theorem d_Mo_letters_3 : decode prog_14_method_12_code 3 = .ok (.lstore 4, 2) := dd_at dd_Mo_letters 3 rfl
theorem d_Mo_letters_5 : decode prog_14_method_12_code 5 = .ok (.lload 4, 2) := dd_at dd_Mo_letters 4 rfl
theorem d_Mo_letters_7 : decode prog_14_method_12_code 7 = .ok (.lconst 0, 1) := dd_at dd_Mo_letters 5 rfl
theorem d_Mo_letters_8 : decode prog_14_method_12_code 8 = .ok (.lcmp, 1) := dd_at dd_Mo_letters 6 rfl
theorem d_Mo_letters_9 : decode prog_14_method_12_code 9 = .ok (.ifCond .eq (16), 3) := dd_at dd_Mo_letters 7 rfl
theorem d_Mo_letters_12 : decode prog_14_method_12_code 12 = .ok (.iinc 3 (1), 3) := dd_at dd_Mo_letters 8 rfl
theorem d_Mo_letters_15 : decode prog_14_method_12_code 15 = .ok (.lload 4, 2) := dd_at dd_Mo_letters 9 rfl
theorem d_Mo_letters_17 : decode prog_14_method_12_code 17 = .ok (.bipush (8), 2) := dd_at dd_Mo_letters 10 rfl
theorem d_Mo_letters_19 : decode prog_14_method_12_code 19 = .ok (.lshr, 1) := dd_at dd_Mo_letters 11 rfl
theorem d_Mo_letters_20 : decode prog_14_method_12_code 20 = .ok (.lstore 4, 2) := dd_at dd_Mo_letters 12 rfl
theorem d_Mo_letters_22 : decode prog_14_method_12_code 22 = .ok (.goto (-17), 3) := dd_at dd_Mo_letters 13 rfl
theorem d_Mo_letters_25 : decode prog_14_method_12_code 25 = .ok (.iload_n 3, 1) := dd_at dd_Mo_letters 14 rfl
theorem d_Mo_letters_26 : decode prog_14_method_12_code 26 = .ok (.ireturn, 1) := dd_at dd_Mo_letters 15 rfl
def ld_Mo_begins : List (Nat × Instr × Nat) := [(0, .aload_n 0, 1), (1, .iload_n 1, 1), (2, .invokevirtual 220, 3), (5, .lstore_n 3, 1), (6, .aload_n 0, 1), (7, .lload_n 3, 1), (8, .invokevirtual 224, 3), (11, .istore 5, 2), (13, .iload_n 2, 1), (14, .iload 5, 2), (16, .if_icmp .le (5), 3), (19, .iconst 0, 1), (20, .ireturn, 1), (21, .iconst 0, 1), (22, .istore 6, 2), (24, .iload 6, 2), (26, .iload_n 2, 1), (27, .if_icmp .ge (38), 3), (30, .lload_n 3, 1), (31, .bipush (8), 2), (33, .iload 5, 2), (35, .iconst 1, 1), (36, .isub, 1), (37, .iload 6, 2), (39, .isub, 1), (40, .imul, 1), (41, .lshr, 1), (42, .ldc2_w 228, 3), (45, .land, 1), (46, .aload_n 0, 1), (47, .iload 6, 2), (49, .invokevirtual 230, 3), (52, .i2l, 1), (53, .lcmp, 1), (54, .ifCond .eq (5), 3), (57, .iconst 0, 1), (58, .ireturn, 1), (59, .iinc 6 (1), 3), (62, .goto (-38), 3), (65, .iconst 1, 1), (66, .ireturn, 1)]
theorem dd_Mo_begins : (ld_Mo_begins).all (dOK prog_14_method_13_code) = true := by decide +kernel
theorem d_Mo_begins_0 : decode prog_14_method_13_code 0 = .ok (.aload_n 0, 1) := dd_at dd_Mo_begins 0 rfl
theorem d_Mo_begins_1 : decode prog_14_method_13_code 1 = .ok (.iload_n 1, 1) := dd_at dd_Mo_begins 1 rfl
theorem d_Mo_begins_2 : decode prog_14_method_13_code 2 = .ok (.invokevirtual 220, 3) := dd_at dd_Mo_begins 2 rfl
theorem d_Mo_begins_5 : decode prog_14_method_13_code 5 = .ok (.lstore_n 3, 1) := dd_at dd_Mo_begins 3 rfl
theorem d_Mo_begins_6 : decode prog_14_method_13_code 6 = .ok (.aload_n 0, 1) := dd_at dd_Mo_begins 4 rfl
theorem d_Mo_begins_7 : decode prog_14_method_13_code 7 = .ok (.lload_n 3, 1) := dd_at dd_Mo_begins 5 rfl
theorem d_Mo_begins_8 : decode prog_14_method_13_code 8 = .ok (.invokevirtual 224, 3) := dd_at dd_Mo_begins 6 rfl
theorem d_Mo_begins_11 : decode prog_14_method_13_code 11 = .ok (.istore 5, 2) := dd_at dd_Mo_begins 7 rfl
theorem d_Mo_begins_13 : decode prog_14_method_13_code 13 = .ok (.iload_n 2, 1) := dd_at dd_Mo_begins 8 rfl
theorem d_Mo_begins_14 : decode prog_14_method_13_code 14 = .ok (.iload 5, 2) := dd_at dd_Mo_begins 9 rfl
theorem d_Mo_begins_16 : decode prog_14_method_13_code 16 = .ok (.if_icmp .le (5), 3) := dd_at dd_Mo_begins 10 rfl
theorem d_Mo_begins_19 : decode prog_14_method_13_code 19 = .ok (.iconst 0, 1) := dd_at dd_Mo_begins 11 rfl
theorem d_Mo_begins_20 : decode prog_14_method_13_code 20 = .ok (.ireturn, 1) := dd_at dd_Mo_begins 12 rfl
theorem d_Mo_begins_21 : decode prog_14_method_13_code 21 = .ok (.iconst 0, 1) := dd_at dd_Mo_begins 13 rfl
theorem d_Mo_begins_22 : decode prog_14_method_13_code 22 = .ok (.istore 6, 2) := dd_at dd_Mo_begins 14 rfl
theorem d_Mo_begins_24 : decode prog_14_method_13_code 24 = .ok (.iload 6, 2) := dd_at dd_Mo_begins 15 rfl
theorem d_Mo_begins_26 : decode prog_14_method_13_code 26 = .ok (.iload_n 2, 1) := dd_at dd_Mo_begins 16 rfl
theorem d_Mo_begins_27 : decode prog_14_method_13_code 27 = .ok (.if_icmp .ge (38), 3) := dd_at dd_Mo_begins 17 rfl
theorem d_Mo_begins_30 : decode prog_14_method_13_code 30 = .ok (.lload_n 3, 1) := dd_at dd_Mo_begins 18 rfl
theorem d_Mo_begins_31 : decode prog_14_method_13_code 31 = .ok (.bipush (8), 2) := dd_at dd_Mo_begins 19 rfl
theorem d_Mo_begins_33 : decode prog_14_method_13_code 33 = .ok (.iload 5, 2) := dd_at dd_Mo_begins 20 rfl
theorem d_Mo_begins_35 : decode prog_14_method_13_code 35 = .ok (.iconst 1, 1) := dd_at dd_Mo_begins 21 rfl
theorem d_Mo_begins_36 : decode prog_14_method_13_code 36 = .ok (.isub, 1) := dd_at dd_Mo_begins 22 rfl
theorem d_Mo_begins_37 : decode prog_14_method_13_code 37 = .ok (.iload 6, 2) := dd_at dd_Mo_begins 23 rfl
theorem d_Mo_begins_39 : decode prog_14_method_13_code 39 = .ok (.isub, 1) := dd_at dd_Mo_begins 24 rfl
theorem d_Mo_begins_40 : decode prog_14_method_13_code 40 = .ok (.imul, 1) := dd_at dd_Mo_begins 25 rfl
theorem d_Mo_begins_41 : decode prog_14_method_13_code 41 = .ok (.lshr, 1) := dd_at dd_Mo_begins 26 rfl
theorem d_Mo_begins_42 : decode prog_14_method_13_code 42 = .ok (.ldc2_w 228, 3) := dd_at dd_Mo_begins 27 rfl
theorem d_Mo_begins_45 : decode prog_14_method_13_code 45 = .ok (.land, 1) := dd_at dd_Mo_begins 28 rfl
theorem d_Mo_begins_46 : decode prog_14_method_13_code 46 = .ok (.aload_n 0, 1) := dd_at dd_Mo_begins 29 rfl
theorem d_Mo_begins_47 : decode prog_14_method_13_code 47 = .ok (.iload 6, 2) := dd_at dd_Mo_begins 30 rfl
theorem d_Mo_begins_49 : decode prog_14_method_13_code 49 = .ok (.invokevirtual 230, 3) := dd_at dd_Mo_begins 31 rfl
theorem d_Mo_begins_52 : decode prog_14_method_13_code 52 = .ok (.i2l, 1) := dd_at dd_Mo_begins 32 rfl
theorem d_Mo_begins_53 : decode prog_14_method_13_code 53 = .ok (.lcmp, 1) := dd_at dd_Mo_begins 33 rfl
theorem d_Mo_begins_54 : decode prog_14_method_13_code 54 = .ok (.ifCond .eq (5), 3) := dd_at dd_Mo_begins 34 rfl
theorem d_Mo_begins_57 : decode prog_14_method_13_code 57 = .ok (.iconst 0, 1) := dd_at dd_Mo_begins 35 rfl
theorem d_Mo_begins_58 : decode prog_14_method_13_code 58 = .ok (.ireturn, 1) := dd_at dd_Mo_begins 36 rfl
theorem d_Mo_begins_59 : decode prog_14_method_13_code 59 = .ok (.iinc 6 (1), 3) := dd_at dd_Mo_begins 37 rfl
theorem d_Mo_begins_62 : decode prog_14_method_13_code 62 = .ok (.goto (-38), 3) := dd_at dd_Mo_begins 38 rfl
theorem d_Mo_begins_65 : decode prog_14_method_13_code 65 = .ok (.iconst 1, 1) := dd_at dd_Mo_begins 39 rfl
theorem d_Mo_begins_66 : decode prog_14_method_13_code 66 = .ok (.ireturn, 1) := dd_at dd_Mo_begins 40 rfl
def ld_Mo_takeWord : List (Nat × Instr × Nat) := [(0, .iconst 1, 1), (1, .istore_n 3, 1), (2, .aload_n 0, 1), (3, .getfield 31, 3), (6, .ifCond .ne (92), 3), (9, .iconst 0, 1), (10, .istore 4, 2), (12, .iload_n 1, 1), (13, .istore 5, 2), (15, .iload 5, 2), (17, .iload_n 2, 1), (18, .if_icmp .gt (52), 3), (21, .aload_n 0, 1), (22, .iload 5, 2), (24, .iload_n 3, 1), (25, .invokevirtual 233, 3), (28, .ifCond .ne (6), 3), (31, .goto (33), 3), (34, .iconst 1, 1), (35, .istore 4, 2), (37, .aload_n 0, 1), (38, .aload_n 0, 1), (39, .iload 5, 2), (41, .invokevirtual 220, 3), (44, .invokevirtual 224, 3), (47, .iload_n 3, 1), (48, .if_icmp .ne (16), 3), (51, .aload_n 0, 1), (52, .dup, 1), (53, .getfield 22, 3), (56, .iload_n 3, 1), (57, .iadd, 1), (58, .putfield 22, 3), (61, .iload 5, 2), (63, .ireturn, 1), (64, .iinc 5 (1), 3), (67, .goto (-52), 3), (70, .iload 4, 2), (72, .ifCond .ne (20), 3), (75, .aload_n 0, 1), (76, .dup, 1), (77, .getfield 22, 3), (80, .iload_n 3, 1), (81, .iconst 1, 1), (82, .isub, 1), (83, .iadd, 1), (84, .putfield 22, 3), (87, .aload_n 0, 1), (88, .iconst 1, 1), (89, .putfield 31, 3), (92, .iinc 3 (1), 3), (95, .goto (-93), 3), (98, .iconst (-1), 1), (99, .ireturn, 1)]
theorem dd_Mo_takeWord : (ld_Mo_takeWord).all (dOK prog_14_method_14_code) = true := by decide +kernel
theorem d_Mo_takeWord_0 : decode prog_14_method_14_code 0 = .ok (.iconst 1, 1) := dd_at dd_Mo_takeWord 0 rfl
theorem d_Mo_takeWord_1 : decode prog_14_method_14_code 1 = .ok (.istore_n 3, 1) := dd_at dd_Mo_takeWord 1 rfl
theorem d_Mo_takeWord_2 : decode prog_14_method_14_code 2 = .ok (.aload_n 0, 1) := dd_at dd_Mo_takeWord 2 rfl
theorem d_Mo_takeWord_3 : decode prog_14_method_14_code 3 = .ok (.getfield 31, 3) := dd_at dd_Mo_takeWord 3 rfl
theorem d_Mo_takeWord_6 : decode prog_14_method_14_code 6 = .ok (.ifCond .ne (92), 3) := dd_at dd_Mo_takeWord 4 rfl
theorem d_Mo_takeWord_9 : decode prog_14_method_14_code 9 = .ok (.iconst 0, 1) := dd_at dd_Mo_takeWord 5 rfl
theorem d_Mo_takeWord_10 : decode prog_14_method_14_code 10 = .ok (.istore 4, 2) := dd_at dd_Mo_takeWord 6 rfl
theorem d_Mo_takeWord_12 : decode prog_14_method_14_code 12 = .ok (.iload_n 1, 1) := dd_at dd_Mo_takeWord 7 rfl
theorem d_Mo_takeWord_13 : decode prog_14_method_14_code 13 = .ok (.istore 5, 2) := dd_at dd_Mo_takeWord 8 rfl
theorem d_Mo_takeWord_15 : decode prog_14_method_14_code 15 = .ok (.iload 5, 2) := dd_at dd_Mo_takeWord 9 rfl
theorem d_Mo_takeWord_17 : decode prog_14_method_14_code 17 = .ok (.iload_n 2, 1) := dd_at dd_Mo_takeWord 10 rfl
theorem d_Mo_takeWord_18 : decode prog_14_method_14_code 18 = .ok (.if_icmp .gt (52), 3) := dd_at dd_Mo_takeWord 11 rfl
theorem d_Mo_takeWord_21 : decode prog_14_method_14_code 21 = .ok (.aload_n 0, 1) := dd_at dd_Mo_takeWord 12 rfl
theorem d_Mo_takeWord_22 : decode prog_14_method_14_code 22 = .ok (.iload 5, 2) := dd_at dd_Mo_takeWord 13 rfl
theorem d_Mo_takeWord_24 : decode prog_14_method_14_code 24 = .ok (.iload_n 3, 1) := dd_at dd_Mo_takeWord 14 rfl
theorem d_Mo_takeWord_25 : decode prog_14_method_14_code 25 = .ok (.invokevirtual 233, 3) := dd_at dd_Mo_takeWord 15 rfl
theorem d_Mo_takeWord_28 : decode prog_14_method_14_code 28 = .ok (.ifCond .ne (6), 3) := dd_at dd_Mo_takeWord 16 rfl
theorem d_Mo_takeWord_31 : decode prog_14_method_14_code 31 = .ok (.goto (33), 3) := dd_at dd_Mo_takeWord 17 rfl
theorem d_Mo_takeWord_34 : decode prog_14_method_14_code 34 = .ok (.iconst 1, 1) := dd_at dd_Mo_takeWord 18 rfl
theorem d_Mo_takeWord_35 : decode prog_14_method_14_code 35 = .ok (.istore 4, 2) := dd_at dd_Mo_takeWord 19 rfl
theorem d_Mo_takeWord_37 : decode prog_14_method_14_code 37 = .ok (.aload_n 0, 1) := dd_at dd_Mo_takeWord 20 rfl
theorem d_Mo_takeWord_38 : decode prog_14_method_14_code 38 = .ok (.aload_n 0, 1) := dd_at dd_Mo_takeWord 21 rfl
theorem d_Mo_takeWord_39 : decode prog_14_method_14_code 39 = .ok (.iload 5, 2) := dd_at dd_Mo_takeWord 22 rfl
theorem d_Mo_takeWord_41 : decode prog_14_method_14_code 41 = .ok (.invokevirtual 220, 3) := dd_at dd_Mo_takeWord 23 rfl
theorem d_Mo_takeWord_44 : decode prog_14_method_14_code 44 = .ok (.invokevirtual 224, 3) := dd_at dd_Mo_takeWord 24 rfl
theorem d_Mo_takeWord_47 : decode prog_14_method_14_code 47 = .ok (.iload_n 3, 1) := dd_at dd_Mo_takeWord 25 rfl
theorem d_Mo_takeWord_48 : decode prog_14_method_14_code 48 = .ok (.if_icmp .ne (16), 3) := dd_at dd_Mo_takeWord 26 rfl
theorem d_Mo_takeWord_51 : decode prog_14_method_14_code 51 = .ok (.aload_n 0, 1) := dd_at dd_Mo_takeWord 27 rfl
theorem d_Mo_takeWord_52 : decode prog_14_method_14_code 52 = .ok (.dup, 1) := dd_at dd_Mo_takeWord 28 rfl
theorem d_Mo_takeWord_53 : decode prog_14_method_14_code 53 = .ok (.getfield 22, 3) := dd_at dd_Mo_takeWord 29 rfl
theorem d_Mo_takeWord_56 : decode prog_14_method_14_code 56 = .ok (.iload_n 3, 1) := dd_at dd_Mo_takeWord 30 rfl
theorem d_Mo_takeWord_57 : decode prog_14_method_14_code 57 = .ok (.iadd, 1) := dd_at dd_Mo_takeWord 31 rfl
theorem d_Mo_takeWord_58 : decode prog_14_method_14_code 58 = .ok (.putfield 22, 3) := dd_at dd_Mo_takeWord 32 rfl
theorem d_Mo_takeWord_61 : decode prog_14_method_14_code 61 = .ok (.iload 5, 2) := dd_at dd_Mo_takeWord 33 rfl
theorem d_Mo_takeWord_63 : decode prog_14_method_14_code 63 = .ok (.ireturn, 1) := dd_at dd_Mo_takeWord 34 rfl
theorem d_Mo_takeWord_64 : decode prog_14_method_14_code 64 = .ok (.iinc 5 (1), 3) := dd_at dd_Mo_takeWord 35 rfl
theorem d_Mo_takeWord_67 : decode prog_14_method_14_code 67 = .ok (.goto (-52), 3) := dd_at dd_Mo_takeWord 36 rfl
theorem d_Mo_takeWord_70 : decode prog_14_method_14_code 70 = .ok (.iload 4, 2) := dd_at dd_Mo_takeWord 37 rfl
theorem d_Mo_takeWord_72 : decode prog_14_method_14_code 72 = .ok (.ifCond .ne (20), 3) := dd_at dd_Mo_takeWord 38 rfl
theorem d_Mo_takeWord_75 : decode prog_14_method_14_code 75 = .ok (.aload_n 0, 1) := dd_at dd_Mo_takeWord 39 rfl
theorem d_Mo_takeWord_76 : decode prog_14_method_14_code 76 = .ok (.dup, 1) := dd_at dd_Mo_takeWord 40 rfl
theorem d_Mo_takeWord_77 : decode prog_14_method_14_code 77 = .ok (.getfield 22, 3) := dd_at dd_Mo_takeWord 41 rfl
theorem d_Mo_takeWord_80 : decode prog_14_method_14_code 80 = .ok (.iload_n 3, 1) := dd_at dd_Mo_takeWord 42 rfl
theorem d_Mo_takeWord_81 : decode prog_14_method_14_code 81 = .ok (.iconst 1, 1) := dd_at dd_Mo_takeWord 43 rfl
theorem d_Mo_takeWord_82 : decode prog_14_method_14_code 82 = .ok (.isub, 1) := dd_at dd_Mo_takeWord 44 rfl
theorem d_Mo_takeWord_83 : decode prog_14_method_14_code 83 = .ok (.iadd, 1) := dd_at dd_Mo_takeWord 45 rfl
theorem d_Mo_takeWord_84 : decode prog_14_method_14_code 84 = .ok (.putfield 22, 3) := dd_at dd_Mo_takeWord 46 rfl
theorem d_Mo_takeWord_87 : decode prog_14_method_14_code 87 = .ok (.aload_n 0, 1) := dd_at dd_Mo_takeWord 47 rfl
theorem d_Mo_takeWord_88 : decode prog_14_method_14_code 88 = .ok (.iconst 1, 1) := dd_at dd_Mo_takeWord 48 rfl
theorem d_Mo_takeWord_89 : decode prog_14_method_14_code 89 = .ok (.putfield 31, 3) := dd_at dd_Mo_takeWord 49 rfl
theorem d_Mo_takeWord_92 : decode prog_14_method_14_code 92 = .ok (.iinc 3 (1), 3) := dd_at dd_Mo_takeWord 50 rfl
theorem d_Mo_takeWord_95 : decode prog_14_method_14_code 95 = .ok (.goto (-93), 3) := dd_at dd_Mo_takeWord 51 rfl
theorem d_Mo_takeWord_98 : decode prog_14_method_14_code 98 = .ok (.iconst (-1), 1) := dd_at dd_Mo_takeWord 52 rfl
theorem d_Mo_takeWord_99 : decode prog_14_method_14_code 99 = .ok (.ireturn, 1) := dd_at dd_Mo_takeWord 53 rfl
def ld_Mo_lineNumber : List (Nat × Instr × Nat) := [(0, .iconst 0, 1), (1, .istore_n 1, 1), (2, .iconst 0, 1), (3, .istore_n 2, 1), (4, .aload_n 0, 1), (5, .getfield 31, 3), (8, .ifCond .eq (5), 3), (11, .iconst 0, 1), (12, .ireturn, 1), (13, .iload_n 2, 1), (14, .iconst 3, 1), (15, .if_icmp .ge (57), 3), (18, .aload_n 0, 1), (19, .invokevirtual 237, 3), (22, .ifCond .eq (50), 3), (25, .iload_n 2, 1), (26, .iconst 2, 1), (27, .if_icmp .ne (16), 3), (30, .iload_n 1, 1), (31, .ifCond .ne (12), 3), (34, .aload_n 0, 1), (35, .invokevirtual 156, 3), (38, .bipush (48), 2), (40, .if_icmp .eq (32), 3), (43, .iload_n 1, 1), (44, .bipush (10), 2), (46, .imul, 1), (47, .aload_n 0, 1), (48, .invokevirtual 156, 3), (51, .iadd, 1), (52, .bipush (48), 2), (54, .isub, 1), (55, .istore_n 1, 1), (56, .aload_n 0, 1), (57, .dup, 1), (58, .getfield 22, 3), (61, .iconst 1, 1), (62, .iadd, 1), (63, .putfield 22, 3), (66, .iinc 2 (1), 3), (69, .goto (-56), 3), (72, .iload_n 1, 1), (73, .ifCond .ne (8), 3), (76, .aload_n 0, 1), (77, .iconst 1, 1), (78, .putfield 31, 3), (81, .iload_n 1, 1), (82, .ireturn, 1)]
theorem dd_Mo_lineNumber : (ld_Mo_lineNumber).all (dOK prog_14_method_15_code) = true := by decide +kernel
theorem d_Mo_lineNumber_0 : decode prog_14_method_15_code 0 = .ok (.iconst 0, 1) := dd_at dd_Mo_lineNumber 0 rfl
theorem d_Mo_lineNumber_1 : decode prog_14_method_15_code 1 = .ok (.istore_n 1, 1) := dd_at dd_Mo_lineNumber 1 rfl
theorem d_Mo_lineNumber_2 : decode prog_14_method_15_code 2 = .ok (.iconst 0, 1) := dd_at dd_Mo_lineNumber 2 rfl
theorem d_Mo_lineNumber_3 : decode prog_14_method_15_code 3 = .ok (.istore_n 2, 1) := dd_at dd_Mo_lineNumber 3 rfl
theorem d_Mo_lineNumber_4 : decode prog_14_method_15_code 4 = .ok (.aload_n 0, 1) := dd_at dd_Mo_lineNumber 4 rfl
theorem d_Mo_lineNumber_5 : decode prog_14_method_15_code 5 = .ok (.getfield 31, 3) := dd_at dd_Mo_lineNumber 5 rfl
theorem d_Mo_lineNumber_8 : decode prog_14_method_15_code 8 = .ok (.ifCond .eq (5), 3) := dd_at dd_Mo_lineNumber 6 rfl
theorem d_Mo_lineNumber_11 : decode prog_14_method_15_code 11 = .ok (.iconst 0, 1) := dd_at dd_Mo_lineNumber 7 rfl
theorem d_Mo_lineNumber_12 : decode prog_14_method_15_code 12 = .ok (.ireturn, 1) := dd_at dd_Mo_lineNumber 8 rfl
theorem d_Mo_lineNumber_13 : decode prog_14_method_15_code 13 = .ok (.iload_n 2, 1) := dd_at dd_Mo_lineNumber 9 rfl
theorem d_Mo_lineNumber_14 : decode prog_14_method_15_code 14 = .ok (.iconst 3, 1) := dd_at dd_Mo_lineNumber 10 rfl
theorem d_Mo_lineNumber_15 : decode prog_14_method_15_code 15 = .ok (.if_icmp .ge (57), 3) := dd_at dd_Mo_lineNumber 11 rfl
theorem d_Mo_lineNumber_18 : decode prog_14_method_15_code 18 = .ok (.aload_n 0, 1) := dd_at dd_Mo_lineNumber 12 rfl
theorem d_Mo_lineNumber_19 : decode prog_14_method_15_code 19 = .ok (.invokevirtual 237, 3) := dd_at dd_Mo_lineNumber 13 rfl
theorem d_Mo_lineNumber_22 : decode prog_14_method_15_code 22 = .ok (.ifCond .eq (50), 3) := dd_at dd_Mo_lineNumber 14 rfl
theorem d_Mo_lineNumber_25 : decode prog_14_method_15_code 25 = .ok (.iload_n 2, 1) := dd_at dd_Mo_lineNumber 15 rfl
theorem d_Mo_lineNumber_26 : decode prog_14_method_15_code 26 = .ok (.iconst 2, 1) := dd_at dd_Mo_lineNumber 16 rfl
theorem d_Mo_lineNumber_27 : decode prog_14_method_15_code 27 = .ok (.if_icmp .ne (16), 3) := dd_at dd_Mo_lineNumber 17 rfl
theorem d_Mo_lineNumber_30 : decode prog_14_method_15_code 30 = .ok (.iload_n 1, 1) := dd_at dd_Mo_lineNumber 18 rfl
theorem d_Mo_lineNumber_31 : decode prog_14_method_15_code 31 = .ok (.ifCond .ne (12), 3) := dd_at dd_Mo_lineNumber 19 rfl
theorem d_Mo_lineNumber_34 : decode prog_14_method_15_code 34 = .ok (.aload_n 0, 1) := dd_at dd_Mo_lineNumber 20 rfl
theorem d_Mo_lineNumber_35 : decode prog_14_method_15_code 35 = .ok (.invokevirtual 156, 3) := dd_at dd_Mo_lineNumber 21 rfl
theorem d_Mo_lineNumber_38 : decode prog_14_method_15_code 38 = .ok (.bipush (48), 2) := dd_at dd_Mo_lineNumber 22 rfl
theorem d_Mo_lineNumber_40 : decode prog_14_method_15_code 40 = .ok (.if_icmp .eq (32), 3) := dd_at dd_Mo_lineNumber 23 rfl
theorem d_Mo_lineNumber_43 : decode prog_14_method_15_code 43 = .ok (.iload_n 1, 1) := dd_at dd_Mo_lineNumber 24 rfl
theorem d_Mo_lineNumber_44 : decode prog_14_method_15_code 44 = .ok (.bipush (10), 2) := dd_at dd_Mo_lineNumber 25 rfl
theorem d_Mo_lineNumber_46 : decode prog_14_method_15_code 46 = .ok (.imul, 1) := dd_at dd_Mo_lineNumber 26 rfl
theorem d_Mo_lineNumber_47 : decode prog_14_method_15_code 47 = .ok (.aload_n 0, 1) := dd_at dd_Mo_lineNumber 27 rfl
theorem d_Mo_lineNumber_48 : decode prog_14_method_15_code 48 = .ok (.invokevirtual 156, 3) := dd_at dd_Mo_lineNumber 28 rfl
theorem d_Mo_lineNumber_51 : decode prog_14_method_15_code 51 = .ok (.iadd, 1) := dd_at dd_Mo_lineNumber 29 rfl
theorem d_Mo_lineNumber_52 : decode prog_14_method_15_code 52 = .ok (.bipush (48), 2) := dd_at dd_Mo_lineNumber 30 rfl
theorem d_Mo_lineNumber_54 : decode prog_14_method_15_code 54 = .ok (.isub, 1) := dd_at dd_Mo_lineNumber 31 rfl
theorem d_Mo_lineNumber_55 : decode prog_14_method_15_code 55 = .ok (.istore_n 1, 1) := dd_at dd_Mo_lineNumber 32 rfl
theorem d_Mo_lineNumber_56 : decode prog_14_method_15_code 56 = .ok (.aload_n 0, 1) := dd_at dd_Mo_lineNumber 33 rfl
theorem d_Mo_lineNumber_57 : decode prog_14_method_15_code 57 = .ok (.dup, 1) := dd_at dd_Mo_lineNumber 34 rfl
theorem d_Mo_lineNumber_58 : decode prog_14_method_15_code 58 = .ok (.getfield 22, 3) := dd_at dd_Mo_lineNumber 35 rfl
theorem d_Mo_lineNumber_61 : decode prog_14_method_15_code 61 = .ok (.iconst 1, 1) := dd_at dd_Mo_lineNumber 36 rfl
theorem d_Mo_lineNumber_62 : decode prog_14_method_15_code 62 = .ok (.iadd, 1) := dd_at dd_Mo_lineNumber 37 rfl
theorem d_Mo_lineNumber_63 : decode prog_14_method_15_code 63 = .ok (.putfield 22, 3) := dd_at dd_Mo_lineNumber 38 rfl
theorem d_Mo_lineNumber_66 : decode prog_14_method_15_code 66 = .ok (.iinc 2 (1), 3) := dd_at dd_Mo_lineNumber 39 rfl
theorem d_Mo_lineNumber_69 : decode prog_14_method_15_code 69 = .ok (.goto (-56), 3) := dd_at dd_Mo_lineNumber 40 rfl
theorem d_Mo_lineNumber_72 : decode prog_14_method_15_code 72 = .ok (.iload_n 1, 1) := dd_at dd_Mo_lineNumber 41 rfl
theorem d_Mo_lineNumber_73 : decode prog_14_method_15_code 73 = .ok (.ifCond .ne (8), 3) := dd_at dd_Mo_lineNumber 42 rfl
theorem d_Mo_lineNumber_76 : decode prog_14_method_15_code 76 = .ok (.aload_n 0, 1) := dd_at dd_Mo_lineNumber 43 rfl
theorem d_Mo_lineNumber_77 : decode prog_14_method_15_code 77 = .ok (.iconst 1, 1) := dd_at dd_Mo_lineNumber 44 rfl
theorem d_Mo_lineNumber_78 : decode prog_14_method_15_code 78 = .ok (.putfield 31, 3) := dd_at dd_Mo_lineNumber 45 rfl
theorem d_Mo_lineNumber_81 : decode prog_14_method_15_code 81 = .ok (.iload_n 1, 1) := dd_at dd_Mo_lineNumber 46 rfl
theorem d_Mo_lineNumber_82 : decode prog_14_method_15_code 82 = .ok (.ireturn, 1) := dd_at dd_Mo_lineNumber 47 rfl
def ld_Mo_make : List (Nat × Instr × Nat) := [(0, .aload_n 0, 1), (1, .getfield 55, 3), (4, .sipush (3840), 3), (7, .aload_n 0, 1), (8, .getfield 28, 3), (11, .iadd, 1), (12, .iload_n 1, 1), (13, .iastore, 1), (14, .aload_n 0, 1), (15, .dup, 1), (16, .getfield 28, 3), (19, .iconst 1, 1), (20, .iadd, 1), (21, .putfield 28, 3), (24, .return_, 1)]
theorem dd_Mo_make : (ld_Mo_make).all (dOK prog_14_method_16_code) = true := by decide +kernel
theorem d_Mo_make_0 : decode prog_14_method_16_code 0 = .ok (.aload_n 0, 1) := dd_at dd_Mo_make 0 rfl
theorem d_Mo_make_1 : decode prog_14_method_16_code 1 = .ok (.getfield 55, 3) := dd_at dd_Mo_make 1 rfl
theorem d_Mo_make_4 : decode prog_14_method_16_code 4 = .ok (.sipush (3840), 3) := dd_at dd_Mo_make 2 rfl
theorem d_Mo_make_7 : decode prog_14_method_16_code 7 = .ok (.aload_n 0, 1) := dd_at dd_Mo_make 3 rfl
theorem d_Mo_make_8 : decode prog_14_method_16_code 8 = .ok (.getfield 28, 3) := dd_at dd_Mo_make 4 rfl
theorem d_Mo_make_11 : decode prog_14_method_16_code 11 = .ok (.iadd, 1) := dd_at dd_Mo_make 5 rfl
theorem d_Mo_make_12 : decode prog_14_method_16_code 12 = .ok (.iload_n 1, 1) := dd_at dd_Mo_make 6 rfl
theorem d_Mo_make_13 : decode prog_14_method_16_code 13 = .ok (.iastore, 1) := dd_at dd_Mo_make 7 rfl
theorem d_Mo_make_14 : decode prog_14_method_16_code 14 = .ok (.aload_n 0, 1) := dd_at dd_Mo_make 8 rfl
theorem d_Mo_make_15 : decode prog_14_method_16_code 15 = .ok (.dup, 1) := dd_at dd_Mo_make 9 rfl
theorem d_Mo_make_16 : decode prog_14_method_16_code 16 = .ok (.getfield 28, 3) := dd_at dd_Mo_make 10 rfl
theorem d_Mo_make_19 : decode prog_14_method_16_code 19 = .ok (.iconst 1, 1) := dd_at dd_Mo_make 11 rfl
theorem d_Mo_make_20 : decode prog_14_method_16_code 20 = .ok (.iadd, 1) := dd_at dd_Mo_make 12 rfl
theorem d_Mo_make_21 : decode prog_14_method_16_code 21 = .ok (.putfield 28, 3) := dd_at dd_Mo_make 13 rfl
theorem d_Mo_make_24 : decode prog_14_method_16_code 24 = .ok (.return_, 1) := dd_at dd_Mo_make 14 rfl
def ld_Mo_isMatrix : List (Nat × Instr × Nat) := [(0, .iload_n 1, 1), (1, .bipush (80), 2), (3, .if_icmp .lt (13), 3), (6, .iload_n 1, 1), (7, .bipush (82), 2), (9, .if_icmp .gt (7), 3), (12, .iconst 1, 1), (13, .goto (4), 3), (16, .iconst 0, 1), (17, .ireturn, 1)]
theorem dd_Mo_isMatrix : (ld_Mo_isMatrix).all (dOK prog_14_method_17_code) = true := by decide +kernel
theorem d_Mo_isMatrix_0 : decode prog_14_method_17_code 0 = .ok (.iload_n 1, 1) := dd_at dd_Mo_isMatrix 0 rfl
theorem d_Mo_isMatrix_1 : decode prog_14_method_17_code 1 = .ok (.bipush (80), 2) := dd_at dd_Mo_isMatrix 1 rfl
theorem d_Mo_isMatrix_3 : decode prog_14_method_17_code 3 = .ok (.if_icmp .lt (13), 3) := dd_at dd_Mo_isMatrix 2 rfl
theorem d_Mo_isMatrix_6 : decode prog_14_method_17_code 6 = .ok (.iload_n 1, 1) := dd_at dd_Mo_isMatrix 3 rfl
theorem d_Mo_isMatrix_7 : decode prog_14_method_17_code 7 = .ok (.bipush (82), 2) := dd_at dd_Mo_isMatrix 4 rfl
theorem d_Mo_isMatrix_9 : decode prog_14_method_17_code 9 = .ok (.if_icmp .gt (7), 3) := dd_at dd_Mo_isMatrix 5 rfl
theorem d_Mo_isMatrix_12 : decode prog_14_method_17_code 12 = .ok (.iconst 1, 1) := dd_at dd_Mo_isMatrix 6 rfl
theorem d_Mo_isMatrix_13 : decode prog_14_method_17_code 13 = .ok (.goto (4), 3) := dd_at dd_Mo_isMatrix 7 rfl
theorem d_Mo_isMatrix_16 : decode prog_14_method_17_code 16 = .ok (.iconst 0, 1) := dd_at dd_Mo_isMatrix 8 rfl
theorem d_Mo_isMatrix_17 : decode prog_14_method_17_code 17 = .ok (.ireturn, 1) := dd_at dd_Mo_isMatrix 9 rfl
def ld_Mo_variable0 : List (Nat × Instr × Nat) := [(0, .aload_n 0, 1), (1, .invokevirtual 156, 3), (4, .istore_n 1, 1), (5, .aload_n 0, 1), (6, .getfield 31, 3), (9, .ifCond .ne (23), 3), (12, .iload_n 1, 1), (13, .bipush (65), 2), (15, .if_icmp .lt (17), 3), (18, .iload_n 1, 1), (19, .bipush (90), 2), (21, .if_icmp .gt (11), 3), (24, .aload_n 0, 1), (25, .iload_n 1, 1), (26, .invokevirtual 241, 3), (29, .ifCond .eq (10), 3), (32, .aload_n 0, 1), (33, .iconst 1, 1), (34, .putfield 31, 3), (37, .iconst 0, 1), (38, .ireturn, 1), (39, .aload_n 0, 1), (40, .dup, 1), (41, .getfield 22, 3), (44, .iconst 1, 1), (45, .iadd, 1), (46, .putfield 22, 3), (49, .iload_n 1, 1), (50, .bipush (65), 2), (52, .isub, 1), (53, .ireturn, 1)]
theorem dd_Mo_variable0 : (ld_Mo_variable0).all (dOK prog_14_method_18_code) = true := by decide +kernel
theorem d_Mo_variable0_0 : decode prog_14_method_18_code 0 = .ok (.aload_n 0, 1) := dd_at dd_Mo_variable0 0 rfl
theorem d_Mo_variable0_1 : decode prog_14_method_18_code 1 = .ok (.invokevirtual 156, 3) := dd_at dd_Mo_variable0 1 rfl
theorem d_Mo_variable0_4 : decode prog_14_method_18_code 4 = .ok (.istore_n 1, 1) := dd_at dd_Mo_variable0 2 rfl
theorem d_Mo_variable0_5 : decode prog_14_method_18_code 5 = .ok (.aload_n 0, 1) := dd_at dd_Mo_variable0 3 rfl
theorem d_Mo_variable0_6 : decode prog_14_method_18_code 6 = .ok (.getfield 31, 3) := dd_at dd_Mo_variable0 4 rfl
theorem d_Mo_variable0_9 : decode prog_14_method_18_code 9 = .ok (.ifCond .ne (23), 3) := dd_at dd_Mo_variable0 5 rfl
theorem d_Mo_variable0_12 : decode prog_14_method_18_code 12 = .ok (.iload_n 1, 1) := dd_at dd_Mo_variable0 6 rfl
theorem d_Mo_variable0_13 : decode prog_14_method_18_code 13 = .ok (.bipush (65), 2) := dd_at dd_Mo_variable0 7 rfl
theorem d_Mo_variable0_15 : decode prog_14_method_18_code 15 = .ok (.if_icmp .lt (17), 3) := dd_at dd_Mo_variable0 8 rfl
theorem d_Mo_variable0_18 : decode prog_14_method_18_code 18 = .ok (.iload_n 1, 1) := dd_at dd_Mo_variable0 9 rfl
theorem d_Mo_variable0_19 : decode prog_14_method_18_code 19 = .ok (.bipush (90), 2) := dd_at dd_Mo_variable0 10 rfl
theorem d_Mo_variable0_21 : decode prog_14_method_18_code 21 = .ok (.if_icmp .gt (11), 3) := dd_at dd_Mo_variable0 11 rfl
theorem d_Mo_variable0_24 : decode prog_14_method_18_code 24 = .ok (.aload_n 0, 1) := dd_at dd_Mo_variable0 12 rfl
theorem d_Mo_variable0_25 : decode prog_14_method_18_code 25 = .ok (.iload_n 1, 1) := dd_at dd_Mo_variable0 13 rfl
theorem d_Mo_variable0_26 : decode prog_14_method_18_code 26 = .ok (.invokevirtual 241, 3) := dd_at dd_Mo_variable0 14 rfl
theorem d_Mo_variable0_29 : decode prog_14_method_18_code 29 = .ok (.ifCond .eq (10), 3) := dd_at dd_Mo_variable0 15 rfl
theorem d_Mo_variable0_32 : decode prog_14_method_18_code 32 = .ok (.aload_n 0, 1) := dd_at dd_Mo_variable0 16 rfl
theorem d_Mo_variable0_33 : decode prog_14_method_18_code 33 = .ok (.iconst 1, 1) := dd_at dd_Mo_variable0 17 rfl
theorem d_Mo_variable0_34 : decode prog_14_method_18_code 34 = .ok (.putfield 31, 3) := dd_at dd_Mo_variable0 18 rfl
theorem d_Mo_variable0_37 : decode prog_14_method_18_code 37 = .ok (.iconst 0, 1) := dd_at dd_Mo_variable0 19 rfl
theorem d_Mo_variable0_38 : decode prog_14_method_18_code 38 = .ok (.ireturn, 1) := dd_at dd_Mo_variable0 20 rfl
theorem d_Mo_variable0_39 : decode prog_14_method_18_code 39 = .ok (.aload_n 0, 1) := dd_at dd_Mo_variable0 21 rfl
theorem d_Mo_variable0_40 : decode prog_14_method_18_code 40 = .ok (.dup, 1) := dd_at dd_Mo_variable0 22 rfl
theorem d_Mo_variable0_41 : decode prog_14_method_18_code 41 = .ok (.getfield 22, 3) := dd_at dd_Mo_variable0 23 rfl
theorem d_Mo_variable0_44 : decode prog_14_method_18_code 44 = .ok (.iconst 1, 1) := dd_at dd_Mo_variable0 24 rfl
theorem d_Mo_variable0_45 : decode prog_14_method_18_code 45 = .ok (.iadd, 1) := dd_at dd_Mo_variable0 25 rfl
theorem d_Mo_variable0_46 : decode prog_14_method_18_code 46 = .ok (.putfield 22, 3) := dd_at dd_Mo_variable0 26 rfl
theorem d_Mo_variable0_49 : decode prog_14_method_18_code 49 = .ok (.iload_n 1, 1) := dd_at dd_Mo_variable0 27 rfl
theorem d_Mo_variable0_50 : decode prog_14_method_18_code 50 = .ok (.bipush (65), 2) := dd_at dd_Mo_variable0 28 rfl
theorem d_Mo_variable0_52 : decode prog_14_method_18_code 52 = .ok (.isub, 1) := dd_at dd_Mo_variable0 29 rfl
theorem d_Mo_variable0_53 : decode prog_14_method_18_code 53 = .ok (.ireturn, 1) := dd_at dd_Mo_variable0 30 rfl
def ld_Mo_matrix : List (Nat × Instr × Nat) := [(0, .aload_n 0, 1), (1, .invokevirtual 156, 3), (4, .istore_n 1, 1), (5, .aload_n 0, 1), (6, .getfield 31, 3), (9, .ifCond .ne (11), 3), (12, .aload_n 0, 1), (13, .iload_n 1, 1), (14, .invokevirtual 241, 3), (17, .ifCond .ne (10), 3), (20, .aload_n 0, 1), (21, .iconst 1, 1), (22, .putfield 31, 3), (25, .iconst 0, 1), (26, .ireturn, 1), (27, .aload_n 0, 1), (28, .dup, 1), (29, .getfield 22, 3), (32, .iconst 1, 1), (33, .iadd, 1), (34, .putfield 22, 3), (37, .iload_n 1, 1), (38, .bipush (80), 2), (40, .isub, 1), (41, .ireturn, 1)]
theorem dd_Mo_matrix : (ld_Mo_matrix).all (dOK prog_14_method_19_code) = true := by decide +kernel
theorem d_Mo_matrix_0 : decode prog_14_method_19_code 0 = .ok (.aload_n 0, 1) := dd_at dd_Mo_matrix 0 rfl
theorem d_Mo_matrix_1 : decode prog_14_method_19_code 1 = .ok (.invokevirtual 156, 3) := dd_at dd_Mo_matrix 1 rfl
theorem d_Mo_matrix_4 : decode prog_14_method_19_code 4 = .ok (.istore_n 1, 1) := dd_at dd_Mo_matrix 2 rfl
theorem d_Mo_matrix_5 : decode prog_14_method_19_code 5 = .ok (.aload_n 0, 1) := dd_at dd_Mo_matrix 3 rfl
theorem d_Mo_matrix_6 : decode prog_14_method_19_code 6 = .ok (.getfield 31, 3) := dd_at dd_Mo_matrix 4 rfl
theorem d_Mo_matrix_9 : decode prog_14_method_19_code 9 = .ok (.ifCond .ne (11), 3) := dd_at dd_Mo_matrix 5 rfl
theorem d_Mo_matrix_12 : decode prog_14_method_19_code 12 = .ok (.aload_n 0, 1) := dd_at dd_Mo_matrix 6 rfl
theorem d_Mo_matrix_13 : decode prog_14_method_19_code 13 = .ok (.iload_n 1, 1) := dd_at dd_Mo_matrix 7 rfl
theorem d_Mo_matrix_14 : decode prog_14_method_19_code 14 = .ok (.invokevirtual 241, 3) := dd_at dd_Mo_matrix 8 rfl
theorem d_Mo_matrix_17 : decode prog_14_method_19_code 17 = .ok (.ifCond .ne (10), 3) := dd_at dd_Mo_matrix 9 rfl
theorem d_Mo_matrix_20 : decode prog_14_method_19_code 20 = .ok (.aload_n 0, 1) := dd_at dd_Mo_matrix 10 rfl
theorem d_Mo_matrix_21 : decode prog_14_method_19_code 21 = .ok (.iconst 1, 1) := dd_at dd_Mo_matrix 11 rfl
theorem d_Mo_matrix_22 : decode prog_14_method_19_code 22 = .ok (.putfield 31, 3) := dd_at dd_Mo_matrix 12 rfl
theorem d_Mo_matrix_25 : decode prog_14_method_19_code 25 = .ok (.iconst 0, 1) := dd_at dd_Mo_matrix 13 rfl
theorem d_Mo_matrix_26 : decode prog_14_method_19_code 26 = .ok (.ireturn, 1) := dd_at dd_Mo_matrix 14 rfl
theorem d_Mo_matrix_27 : decode prog_14_method_19_code 27 = .ok (.aload_n 0, 1) := dd_at dd_Mo_matrix 15 rfl
theorem d_Mo_matrix_28 : decode prog_14_method_19_code 28 = .ok (.dup, 1) := dd_at dd_Mo_matrix 16 rfl
theorem d_Mo_matrix_29 : decode prog_14_method_19_code 29 = .ok (.getfield 22, 3) := dd_at dd_Mo_matrix 17 rfl
theorem d_Mo_matrix_32 : decode prog_14_method_19_code 32 = .ok (.iconst 1, 1) := dd_at dd_Mo_matrix 18 rfl
theorem d_Mo_matrix_33 : decode prog_14_method_19_code 33 = .ok (.iadd, 1) := dd_at dd_Mo_matrix 19 rfl
theorem d_Mo_matrix_34 : decode prog_14_method_19_code 34 = .ok (.putfield 22, 3) := dd_at dd_Mo_matrix 20 rfl
theorem d_Mo_matrix_37 : decode prog_14_method_19_code 37 = .ok (.iload_n 1, 1) := dd_at dd_Mo_matrix 21 rfl
theorem d_Mo_matrix_38 : decode prog_14_method_19_code 38 = .ok (.bipush (80), 2) := dd_at dd_Mo_matrix 22 rfl
theorem d_Mo_matrix_40 : decode prog_14_method_19_code 40 = .ok (.isub, 1) := dd_at dd_Mo_matrix 23 rfl
theorem d_Mo_matrix_41 : decode prog_14_method_19_code 41 = .ok (.ireturn, 1) := dd_at dd_Mo_matrix 24 rfl
def ld_Mo_numeral : List (Nat × Instr × Nat) := [(0, .iconst 0, 1), (1, .istore_n 1, 1), (2, .iconst 0, 1), (3, .istore_n 2, 1), (4, .iconst 0, 1), (5, .istore_n 3, 1), (6, .aload_n 0, 1), (7, .invokevirtual 237, 3), (10, .ifCond .ne (8), 3), (13, .aload_n 0, 1), (14, .iconst 1, 1), (15, .putfield 31, 3), (18, .aload_n 0, 1), (19, .getfield 31, 3), (22, .ifCond .ne (45), 3), (25, .aload_n 0, 1), (26, .invokevirtual 237, 3), (29, .ifCond .eq (38), 3), (32, .iload_n 2, 1), (33, .bipush (6), 2), (35, .if_icmp .ge (32), 3), (38, .iload_n 1, 1), (39, .bipush (10), 2), (41, .imul, 1), (42, .aload_n 0, 1), (43, .invokevirtual 156, 3), (46, .iadd, 1), (47, .bipush (48), 2), (49, .isub, 1), (50, .istore_n 1, 1), (51, .aload_n 0, 1), (52, .dup, 1), (53, .getfield 22, 3), (56, .iconst 1, 1), (57, .iadd, 1), (58, .putfield 22, 3), (61, .iinc 2 (1), 3), (64, .goto (-46), 3), (67, .aload_n 0, 1), (68, .bipush (46), 2), (70, .invokevirtual 160, 3), (73, .ifCond .eq (63), 3), (76, .aload_n 0, 1), (77, .invokevirtual 237, 3), (80, .ifCond .ne (8), 3), (83, .aload_n 0, 1), (84, .iconst 1, 1), (85, .putfield 31, 3), (88, .aload_n 0, 1), (89, .getfield 31, 3), (92, .ifCond .ne (44), 3), (95, .aload_n 0, 1), (96, .invokevirtual 237, 3), (99, .ifCond .eq (37), 3), (102, .iload_n 3, 1), (103, .iconst 3, 1), (104, .if_icmp .ge (32), 3), (107, .iload_n 1, 1), (108, .bipush (10), 2), (110, .imul, 1), (111, .aload_n 0, 1), (112, .invokevirtual 156, 3), (115, .iadd, 1), (116, .bipush (48), 2), (118, .isub, 1), (119, .istore_n 1, 1), (120, .aload_n 0, 1), (121, .dup, 1), (122, .getfield 22, 3), (125, .iconst 1, 1), (126, .iadd, 1), (127, .putfield 22, 3), (130, .iinc 3 (1), 3), (133, .goto (-45), 3), (136, .aload_n 0, 1), (137, .iconst 0, 1), (138, .invokevirtual 244, 3), (141, .aload_n 0, 1), (142, .iload_n 1, 1), (143, .invokevirtual 244, 3), (146, .aload_n 0, 1), (147, .iload_n 3, 1), (148, .invokevirtual 244, 3), (151, .return_, 1)]
theorem dd_Mo_numeral : (ld_Mo_numeral).all (dOK prog_14_method_20_code) = true := by decide +kernel
theorem d_Mo_numeral_0 : decode prog_14_method_20_code 0 = .ok (.iconst 0, 1) := dd_at dd_Mo_numeral 0 rfl
theorem d_Mo_numeral_1 : decode prog_14_method_20_code 1 = .ok (.istore_n 1, 1) := dd_at dd_Mo_numeral 1 rfl
theorem d_Mo_numeral_2 : decode prog_14_method_20_code 2 = .ok (.iconst 0, 1) := dd_at dd_Mo_numeral 2 rfl
theorem d_Mo_numeral_3 : decode prog_14_method_20_code 3 = .ok (.istore_n 2, 1) := dd_at dd_Mo_numeral 3 rfl
theorem d_Mo_numeral_4 : decode prog_14_method_20_code 4 = .ok (.iconst 0, 1) := dd_at dd_Mo_numeral 4 rfl
theorem d_Mo_numeral_5 : decode prog_14_method_20_code 5 = .ok (.istore_n 3, 1) := dd_at dd_Mo_numeral 5 rfl
theorem d_Mo_numeral_6 : decode prog_14_method_20_code 6 = .ok (.aload_n 0, 1) := dd_at dd_Mo_numeral 6 rfl
theorem d_Mo_numeral_7 : decode prog_14_method_20_code 7 = .ok (.invokevirtual 237, 3) := dd_at dd_Mo_numeral 7 rfl
theorem d_Mo_numeral_10 : decode prog_14_method_20_code 10 = .ok (.ifCond .ne (8), 3) := dd_at dd_Mo_numeral 8 rfl
theorem d_Mo_numeral_13 : decode prog_14_method_20_code 13 = .ok (.aload_n 0, 1) := dd_at dd_Mo_numeral 9 rfl
theorem d_Mo_numeral_14 : decode prog_14_method_20_code 14 = .ok (.iconst 1, 1) := dd_at dd_Mo_numeral 10 rfl
theorem d_Mo_numeral_15 : decode prog_14_method_20_code 15 = .ok (.putfield 31, 3) := dd_at dd_Mo_numeral 11 rfl
theorem d_Mo_numeral_18 : decode prog_14_method_20_code 18 = .ok (.aload_n 0, 1) := dd_at dd_Mo_numeral 12 rfl
theorem d_Mo_numeral_19 : decode prog_14_method_20_code 19 = .ok (.getfield 31, 3) := dd_at dd_Mo_numeral 13 rfl
theorem d_Mo_numeral_22 : decode prog_14_method_20_code 22 = .ok (.ifCond .ne (45), 3) := dd_at dd_Mo_numeral 14 rfl
theorem d_Mo_numeral_25 : decode prog_14_method_20_code 25 = .ok (.aload_n 0, 1) := dd_at dd_Mo_numeral 15 rfl
theorem d_Mo_numeral_26 : decode prog_14_method_20_code 26 = .ok (.invokevirtual 237, 3) := dd_at dd_Mo_numeral 16 rfl
theorem d_Mo_numeral_29 : decode prog_14_method_20_code 29 = .ok (.ifCond .eq (38), 3) := dd_at dd_Mo_numeral 17 rfl
theorem d_Mo_numeral_32 : decode prog_14_method_20_code 32 = .ok (.iload_n 2, 1) := dd_at dd_Mo_numeral 18 rfl
theorem d_Mo_numeral_33 : decode prog_14_method_20_code 33 = .ok (.bipush (6), 2) := dd_at dd_Mo_numeral 19 rfl
theorem d_Mo_numeral_35 : decode prog_14_method_20_code 35 = .ok (.if_icmp .ge (32), 3) := dd_at dd_Mo_numeral 20 rfl
theorem d_Mo_numeral_38 : decode prog_14_method_20_code 38 = .ok (.iload_n 1, 1) := dd_at dd_Mo_numeral 21 rfl
theorem d_Mo_numeral_39 : decode prog_14_method_20_code 39 = .ok (.bipush (10), 2) := dd_at dd_Mo_numeral 22 rfl
theorem d_Mo_numeral_41 : decode prog_14_method_20_code 41 = .ok (.imul, 1) := dd_at dd_Mo_numeral 23 rfl
theorem d_Mo_numeral_42 : decode prog_14_method_20_code 42 = .ok (.aload_n 0, 1) := dd_at dd_Mo_numeral 24 rfl
theorem d_Mo_numeral_43 : decode prog_14_method_20_code 43 = .ok (.invokevirtual 156, 3) := dd_at dd_Mo_numeral 25 rfl
theorem d_Mo_numeral_46 : decode prog_14_method_20_code 46 = .ok (.iadd, 1) := dd_at dd_Mo_numeral 26 rfl
theorem d_Mo_numeral_47 : decode prog_14_method_20_code 47 = .ok (.bipush (48), 2) := dd_at dd_Mo_numeral 27 rfl
theorem d_Mo_numeral_49 : decode prog_14_method_20_code 49 = .ok (.isub, 1) := dd_at dd_Mo_numeral 28 rfl
theorem d_Mo_numeral_50 : decode prog_14_method_20_code 50 = .ok (.istore_n 1, 1) := dd_at dd_Mo_numeral 29 rfl
theorem d_Mo_numeral_51 : decode prog_14_method_20_code 51 = .ok (.aload_n 0, 1) := dd_at dd_Mo_numeral 30 rfl
theorem d_Mo_numeral_52 : decode prog_14_method_20_code 52 = .ok (.dup, 1) := dd_at dd_Mo_numeral 31 rfl
theorem d_Mo_numeral_53 : decode prog_14_method_20_code 53 = .ok (.getfield 22, 3) := dd_at dd_Mo_numeral 32 rfl
theorem d_Mo_numeral_56 : decode prog_14_method_20_code 56 = .ok (.iconst 1, 1) := dd_at dd_Mo_numeral 33 rfl
theorem d_Mo_numeral_57 : decode prog_14_method_20_code 57 = .ok (.iadd, 1) := dd_at dd_Mo_numeral 34 rfl
theorem d_Mo_numeral_58 : decode prog_14_method_20_code 58 = .ok (.putfield 22, 3) := dd_at dd_Mo_numeral 35 rfl
theorem d_Mo_numeral_61 : decode prog_14_method_20_code 61 = .ok (.iinc 2 (1), 3) := dd_at dd_Mo_numeral 36 rfl
theorem d_Mo_numeral_64 : decode prog_14_method_20_code 64 = .ok (.goto (-46), 3) := dd_at dd_Mo_numeral 37 rfl
theorem d_Mo_numeral_67 : decode prog_14_method_20_code 67 = .ok (.aload_n 0, 1) := dd_at dd_Mo_numeral 38 rfl
theorem d_Mo_numeral_68 : decode prog_14_method_20_code 68 = .ok (.bipush (46), 2) := dd_at dd_Mo_numeral 39 rfl
theorem d_Mo_numeral_70 : decode prog_14_method_20_code 70 = .ok (.invokevirtual 160, 3) := dd_at dd_Mo_numeral 40 rfl
theorem d_Mo_numeral_73 : decode prog_14_method_20_code 73 = .ok (.ifCond .eq (63), 3) := dd_at dd_Mo_numeral 41 rfl
theorem d_Mo_numeral_76 : decode prog_14_method_20_code 76 = .ok (.aload_n 0, 1) := dd_at dd_Mo_numeral 42 rfl
theorem d_Mo_numeral_77 : decode prog_14_method_20_code 77 = .ok (.invokevirtual 237, 3) := dd_at dd_Mo_numeral 43 rfl
theorem d_Mo_numeral_80 : decode prog_14_method_20_code 80 = .ok (.ifCond .ne (8), 3) := dd_at dd_Mo_numeral 44 rfl
theorem d_Mo_numeral_83 : decode prog_14_method_20_code 83 = .ok (.aload_n 0, 1) := dd_at dd_Mo_numeral 45 rfl
theorem d_Mo_numeral_84 : decode prog_14_method_20_code 84 = .ok (.iconst 1, 1) := dd_at dd_Mo_numeral 46 rfl
theorem d_Mo_numeral_85 : decode prog_14_method_20_code 85 = .ok (.putfield 31, 3) := dd_at dd_Mo_numeral 47 rfl
theorem d_Mo_numeral_88 : decode prog_14_method_20_code 88 = .ok (.aload_n 0, 1) := dd_at dd_Mo_numeral 48 rfl
theorem d_Mo_numeral_89 : decode prog_14_method_20_code 89 = .ok (.getfield 31, 3) := dd_at dd_Mo_numeral 49 rfl
theorem d_Mo_numeral_92 : decode prog_14_method_20_code 92 = .ok (.ifCond .ne (44), 3) := dd_at dd_Mo_numeral 50 rfl
theorem d_Mo_numeral_95 : decode prog_14_method_20_code 95 = .ok (.aload_n 0, 1) := dd_at dd_Mo_numeral 51 rfl
theorem d_Mo_numeral_96 : decode prog_14_method_20_code 96 = .ok (.invokevirtual 237, 3) := dd_at dd_Mo_numeral 52 rfl
theorem d_Mo_numeral_99 : decode prog_14_method_20_code 99 = .ok (.ifCond .eq (37), 3) := dd_at dd_Mo_numeral 53 rfl
theorem d_Mo_numeral_102 : decode prog_14_method_20_code 102 = .ok (.iload_n 3, 1) := dd_at dd_Mo_numeral 54 rfl
theorem d_Mo_numeral_103 : decode prog_14_method_20_code 103 = .ok (.iconst 3, 1) := dd_at dd_Mo_numeral 55 rfl
theorem d_Mo_numeral_104 : decode prog_14_method_20_code 104 = .ok (.if_icmp .ge (32), 3) := dd_at dd_Mo_numeral 56 rfl
theorem d_Mo_numeral_107 : decode prog_14_method_20_code 107 = .ok (.iload_n 1, 1) := dd_at dd_Mo_numeral 57 rfl
theorem d_Mo_numeral_108 : decode prog_14_method_20_code 108 = .ok (.bipush (10), 2) := dd_at dd_Mo_numeral 58 rfl
theorem d_Mo_numeral_110 : decode prog_14_method_20_code 110 = .ok (.imul, 1) := dd_at dd_Mo_numeral 59 rfl
theorem d_Mo_numeral_111 : decode prog_14_method_20_code 111 = .ok (.aload_n 0, 1) := dd_at dd_Mo_numeral 60 rfl
theorem d_Mo_numeral_112 : decode prog_14_method_20_code 112 = .ok (.invokevirtual 156, 3) := dd_at dd_Mo_numeral 61 rfl
theorem d_Mo_numeral_115 : decode prog_14_method_20_code 115 = .ok (.iadd, 1) := dd_at dd_Mo_numeral 62 rfl
theorem d_Mo_numeral_116 : decode prog_14_method_20_code 116 = .ok (.bipush (48), 2) := dd_at dd_Mo_numeral 63 rfl
theorem d_Mo_numeral_118 : decode prog_14_method_20_code 118 = .ok (.isub, 1) := dd_at dd_Mo_numeral 64 rfl
theorem d_Mo_numeral_119 : decode prog_14_method_20_code 119 = .ok (.istore_n 1, 1) := dd_at dd_Mo_numeral 65 rfl
theorem d_Mo_numeral_120 : decode prog_14_method_20_code 120 = .ok (.aload_n 0, 1) := dd_at dd_Mo_numeral 66 rfl
theorem d_Mo_numeral_121 : decode prog_14_method_20_code 121 = .ok (.dup, 1) := dd_at dd_Mo_numeral 67 rfl
theorem d_Mo_numeral_122 : decode prog_14_method_20_code 122 = .ok (.getfield 22, 3) := dd_at dd_Mo_numeral 68 rfl
theorem d_Mo_numeral_125 : decode prog_14_method_20_code 125 = .ok (.iconst 1, 1) := dd_at dd_Mo_numeral 69 rfl
theorem d_Mo_numeral_126 : decode prog_14_method_20_code 126 = .ok (.iadd, 1) := dd_at dd_Mo_numeral 70 rfl
theorem d_Mo_numeral_127 : decode prog_14_method_20_code 127 = .ok (.putfield 22, 3) := dd_at dd_Mo_numeral 71 rfl
theorem d_Mo_numeral_130 : decode prog_14_method_20_code 130 = .ok (.iinc 3 (1), 3) := dd_at dd_Mo_numeral 72 rfl
theorem d_Mo_numeral_133 : decode prog_14_method_20_code 133 = .ok (.goto (-45), 3) := dd_at dd_Mo_numeral 73 rfl
theorem d_Mo_numeral_136 : decode prog_14_method_20_code 136 = .ok (.aload_n 0, 1) := dd_at dd_Mo_numeral 74 rfl
theorem d_Mo_numeral_137 : decode prog_14_method_20_code 137 = .ok (.iconst 0, 1) := dd_at dd_Mo_numeral 75 rfl
theorem d_Mo_numeral_138 : decode prog_14_method_20_code 138 = .ok (.invokevirtual 244, 3) := dd_at dd_Mo_numeral 76 rfl
theorem d_Mo_numeral_141 : decode prog_14_method_20_code 141 = .ok (.aload_n 0, 1) := dd_at dd_Mo_numeral 77 rfl
theorem d_Mo_numeral_142 : decode prog_14_method_20_code 142 = .ok (.iload_n 1, 1) := dd_at dd_Mo_numeral 78 rfl
theorem d_Mo_numeral_143 : decode prog_14_method_20_code 143 = .ok (.invokevirtual 244, 3) := dd_at dd_Mo_numeral 79 rfl
theorem d_Mo_numeral_146 : decode prog_14_method_20_code 146 = .ok (.aload_n 0, 1) := dd_at dd_Mo_numeral 80 rfl
theorem d_Mo_numeral_147 : decode prog_14_method_20_code 147 = .ok (.iload_n 3, 1) := dd_at dd_Mo_numeral 81 rfl
theorem d_Mo_numeral_148 : decode prog_14_method_20_code 148 = .ok (.invokevirtual 244, 3) := dd_at dd_Mo_numeral 82 rfl
theorem d_Mo_numeral_151 : decode prog_14_method_20_code 151 = .ok (.return_, 1) := dd_at dd_Mo_numeral 83 rfl
def ld_Mo_bracket : List (Nat × Instr × Nat) := [(0, .aload_n 0, 1), (1, .getfield 25, 3), (4, .bipush (6), 2), (6, .if_icmp .ne (8), 3), (9, .aload_n 0, 1), (10, .iconst 1, 1), (11, .putfield 31, 3), (14, .aload_n 0, 1), (15, .bipush (40), 2), (17, .invokevirtual 248, 3), (20, .aload_n 0, 1), (21, .getfield 31, 3), (24, .ifCond .ne (13), 3), (27, .aload_n 0, 1), (28, .dup, 1), (29, .getfield 25, 3), (32, .iconst 1, 1), (33, .iadd, 1), (34, .putfield 25, 3), (37, .return_, 1)]
theorem dd_Mo_bracket : (ld_Mo_bracket).all (dOK prog_14_method_21_code) = true := by decide +kernel
theorem d_Mo_bracket_0 : decode prog_14_method_21_code 0 = .ok (.aload_n 0, 1) := dd_at dd_Mo_bracket 0 rfl
theorem d_Mo_bracket_1 : decode prog_14_method_21_code 1 = .ok (.getfield 25, 3) := dd_at dd_Mo_bracket 1 rfl
theorem d_Mo_bracket_4 : decode prog_14_method_21_code 4 = .ok (.bipush (6), 2) := dd_at dd_Mo_bracket 2 rfl
theorem d_Mo_bracket_6 : decode prog_14_method_21_code 6 = .ok (.if_icmp .ne (8), 3) := dd_at dd_Mo_bracket 3 rfl
theorem d_Mo_bracket_9 : decode prog_14_method_21_code 9 = .ok (.aload_n 0, 1) := dd_at dd_Mo_bracket 4 rfl
theorem d_Mo_bracket_10 : decode prog_14_method_21_code 10 = .ok (.iconst 1, 1) := dd_at dd_Mo_bracket 5 rfl
theorem d_Mo_bracket_11 : decode prog_14_method_21_code 11 = .ok (.putfield 31, 3) := dd_at dd_Mo_bracket 6 rfl
theorem d_Mo_bracket_14 : decode prog_14_method_21_code 14 = .ok (.aload_n 0, 1) := dd_at dd_Mo_bracket 7 rfl
theorem d_Mo_bracket_15 : decode prog_14_method_21_code 15 = .ok (.bipush (40), 2) := dd_at dd_Mo_bracket 8 rfl
theorem d_Mo_bracket_17 : decode prog_14_method_21_code 17 = .ok (.invokevirtual 248, 3) := dd_at dd_Mo_bracket 9 rfl
theorem d_Mo_bracket_20 : decode prog_14_method_21_code 20 = .ok (.aload_n 0, 1) := dd_at dd_Mo_bracket 10 rfl
theorem d_Mo_bracket_21 : decode prog_14_method_21_code 21 = .ok (.getfield 31, 3) := dd_at dd_Mo_bracket 11 rfl
theorem d_Mo_bracket_24 : decode prog_14_method_21_code 24 = .ok (.ifCond .ne (13), 3) := dd_at dd_Mo_bracket 12 rfl
theorem d_Mo_bracket_27 : decode prog_14_method_21_code 27 = .ok (.aload_n 0, 1) := dd_at dd_Mo_bracket 13 rfl
theorem d_Mo_bracket_28 : decode prog_14_method_21_code 28 = .ok (.dup, 1) := dd_at dd_Mo_bracket 14 rfl
theorem d_Mo_bracket_29 : decode prog_14_method_21_code 29 = .ok (.getfield 25, 3) := dd_at dd_Mo_bracket 15 rfl
theorem d_Mo_bracket_32 : decode prog_14_method_21_code 32 = .ok (.iconst 1, 1) := dd_at dd_Mo_bracket 16 rfl
theorem d_Mo_bracket_33 : decode prog_14_method_21_code 33 = .ok (.iadd, 1) := dd_at dd_Mo_bracket 17 rfl
theorem d_Mo_bracket_34 : decode prog_14_method_21_code 34 = .ok (.putfield 25, 3) := dd_at dd_Mo_bracket 18 rfl
theorem d_Mo_bracket_37 : decode prog_14_method_21_code 37 = .ok (.return_, 1) := dd_at dd_Mo_bracket 19 rfl
def ld_Mo_shut : List (Nat × Instr × Nat) := [(0, .aload_n 0, 1), (1, .bipush (41), 2), (3, .invokevirtual 248, 3), (6, .aload_n 0, 1), (7, .getfield 31, 3), (10, .ifCond .ne (13), 3), (13, .aload_n 0, 1), (14, .dup, 1), (15, .getfield 25, 3), (18, .iconst 1, 1), (19, .isub, 1), (20, .putfield 25, 3), (23, .return_, 1)]
theorem dd_Mo_shut : (ld_Mo_shut).all (dOK prog_14_method_22_code) = true := by decide +kernel
theorem d_Mo_shut_0 : decode prog_14_method_22_code 0 = .ok (.aload_n 0, 1) := dd_at dd_Mo_shut 0 rfl
theorem d_Mo_shut_1 : decode prog_14_method_22_code 1 = .ok (.bipush (41), 2) := dd_at dd_Mo_shut 1 rfl
theorem d_Mo_shut_3 : decode prog_14_method_22_code 3 = .ok (.invokevirtual 248, 3) := dd_at dd_Mo_shut 2 rfl
theorem d_Mo_shut_6 : decode prog_14_method_22_code 6 = .ok (.aload_n 0, 1) := dd_at dd_Mo_shut 3 rfl
theorem d_Mo_shut_7 : decode prog_14_method_22_code 7 = .ok (.getfield 31, 3) := dd_at dd_Mo_shut 4 rfl
theorem d_Mo_shut_10 : decode prog_14_method_22_code 10 = .ok (.ifCond .ne (13), 3) := dd_at dd_Mo_shut 5 rfl
theorem d_Mo_shut_13 : decode prog_14_method_22_code 13 = .ok (.aload_n 0, 1) := dd_at dd_Mo_shut 6 rfl
theorem d_Mo_shut_14 : decode prog_14_method_22_code 14 = .ok (.dup, 1) := dd_at dd_Mo_shut 7 rfl
theorem d_Mo_shut_15 : decode prog_14_method_22_code 15 = .ok (.getfield 25, 3) := dd_at dd_Mo_shut 8 rfl
theorem d_Mo_shut_18 : decode prog_14_method_22_code 18 = .ok (.iconst 1, 1) := dd_at dd_Mo_shut 9 rfl
theorem d_Mo_shut_19 : decode prog_14_method_22_code 19 = .ok (.isub, 1) := dd_at dd_Mo_shut 10 rfl
theorem d_Mo_shut_20 : decode prog_14_method_22_code 20 = .ok (.putfield 25, 3) := dd_at dd_Mo_shut 11 rfl
theorem d_Mo_shut_23 : decode prog_14_method_22_code 23 = .ok (.return_, 1) := dd_at dd_Mo_shut 12 rfl
def ld_Mo_rank : List (Nat × Instr × Nat) := [(0, .iload_n 1, 1), (1, .bipush (99), 2), (3, .if_icmp .le (7), 3), (6, .iconst 0, 1), (7, .goto (29), 3), (10, .iload_n 1, 1), (11, .bipush (7), 2), (13, .if_icmp .ne (7), 3), (16, .iconst 3, 1), (17, .goto (19), 3), (20, .iload_n 1, 1), (21, .iconst 5, 1), (22, .if_icmp .eq (9), 3), (25, .iload_n 1, 1), (26, .bipush (6), 2), (28, .if_icmp .ne (7), 3), (31, .iconst 2, 1), (32, .goto (4), 3), (35, .iconst 1, 1), (36, .ireturn, 1)]
theorem dd_Mo_rank : (ld_Mo_rank).all (dOK prog_14_method_23_code) = true := by decide +kernel
theorem d_Mo_rank_0 : decode prog_14_method_23_code 0 = .ok (.iload_n 1, 1) := dd_at dd_Mo_rank 0 rfl
theorem d_Mo_rank_1 : decode prog_14_method_23_code 1 = .ok (.bipush (99), 2) := dd_at dd_Mo_rank 1 rfl
theorem d_Mo_rank_3 : decode prog_14_method_23_code 3 = .ok (.if_icmp .le (7), 3) := dd_at dd_Mo_rank 2 rfl
theorem d_Mo_rank_6 : decode prog_14_method_23_code 6 = .ok (.iconst 0, 1) := dd_at dd_Mo_rank 3 rfl
theorem d_Mo_rank_7 : decode prog_14_method_23_code 7 = .ok (.goto (29), 3) := dd_at dd_Mo_rank 4 rfl
theorem d_Mo_rank_10 : decode prog_14_method_23_code 10 = .ok (.iload_n 1, 1) := dd_at dd_Mo_rank 5 rfl
theorem d_Mo_rank_11 : decode prog_14_method_23_code 11 = .ok (.bipush (7), 2) := dd_at dd_Mo_rank 6 rfl
theorem d_Mo_rank_13 : decode prog_14_method_23_code 13 = .ok (.if_icmp .ne (7), 3) := dd_at dd_Mo_rank 7 rfl
theorem d_Mo_rank_16 : decode prog_14_method_23_code 16 = .ok (.iconst 3, 1) := dd_at dd_Mo_rank 8 rfl
theorem d_Mo_rank_17 : decode prog_14_method_23_code 17 = .ok (.goto (19), 3) := dd_at dd_Mo_rank 9 rfl
theorem d_Mo_rank_20 : decode prog_14_method_23_code 20 = .ok (.iload_n 1, 1) := dd_at dd_Mo_rank 10 rfl
theorem d_Mo_rank_21 : decode prog_14_method_23_code 21 = .ok (.iconst 5, 1) := dd_at dd_Mo_rank 11 rfl
theorem d_Mo_rank_22 : decode prog_14_method_23_code 22 = .ok (.if_icmp .eq (9), 3) := dd_at dd_Mo_rank 12 rfl
theorem d_Mo_rank_25 : decode prog_14_method_23_code 25 = .ok (.iload_n 1, 1) := dd_at dd_Mo_rank 13 rfl
theorem d_Mo_rank_26 : decode prog_14_method_23_code 26 = .ok (.bipush (6), 2) := dd_at dd_Mo_rank 14 rfl
theorem d_Mo_rank_28 : decode prog_14_method_23_code 28 = .ok (.if_icmp .ne (7), 3) := dd_at dd_Mo_rank 15 rfl
theorem d_Mo_rank_31 : decode prog_14_method_23_code 31 = .ok (.iconst 2, 1) := dd_at dd_Mo_rank 16 rfl
theorem d_Mo_rank_32 : decode prog_14_method_23_code 32 = .ok (.goto (4), 3) := dd_at dd_Mo_rank 17 rfl
theorem d_Mo_rank_35 : decode prog_14_method_23_code 35 = .ok (.iconst 1, 1) := dd_at dd_Mo_rank 18 rfl
theorem d_Mo_rank_36 : decode prog_14_method_23_code 36 = .ok (.ireturn, 1) := dd_at dd_Mo_rank 19 rfl
def ld_Mo_settle : List (Nat × Instr × Nat) := [(0, .iload_n 1, 1), (1, .istore_n 3, 1), (2, .iload_n 3, 1), (3, .ifCond .le (50), 3), (6, .aload_n 0, 1), (7, .getfield 58, 3), (10, .iload_n 3, 1), (11, .iconst 1, 1), (12, .isub, 1), (13, .iaload, 1), (14, .bipush (100), 2), (16, .if_icmp .ge (37), 3), (19, .aload_n 0, 1), (20, .aload_n 0, 1), (21, .getfield 58, 3), (24, .iload_n 3, 1), (25, .iconst 1, 1), (26, .isub, 1), (27, .iaload, 1), (28, .invokevirtual 251, 3), (31, .iload_n 2, 1), (32, .if_icmp .lt (21), 3), (35, .aload_n 0, 1), (36, .aload_n 0, 1), (37, .getfield 58, 3), (40, .iload_n 3, 1), (41, .iconst 1, 1), (42, .isub, 1), (43, .iaload, 1), (44, .invokevirtual 244, 3), (47, .iinc 3 (-1), 3), (50, .goto (-48), 3), (53, .iload_n 3, 1), (54, .ireturn, 1)]
theorem dd_Mo_settle : (ld_Mo_settle).all (dOK prog_14_method_24_code) = true := by decide +kernel
theorem d_Mo_settle_0 : decode prog_14_method_24_code 0 = .ok (.iload_n 1, 1) := dd_at dd_Mo_settle 0 rfl
theorem d_Mo_settle_1 : decode prog_14_method_24_code 1 = .ok (.istore_n 3, 1) := dd_at dd_Mo_settle 1 rfl
theorem d_Mo_settle_2 : decode prog_14_method_24_code 2 = .ok (.iload_n 3, 1) := dd_at dd_Mo_settle 2 rfl
theorem d_Mo_settle_3 : decode prog_14_method_24_code 3 = .ok (.ifCond .le (50), 3) := dd_at dd_Mo_settle 3 rfl
theorem d_Mo_settle_6 : decode prog_14_method_24_code 6 = .ok (.aload_n 0, 1) := dd_at dd_Mo_settle 4 rfl
theorem d_Mo_settle_7 : decode prog_14_method_24_code 7 = .ok (.getfield 58, 3) := dd_at dd_Mo_settle 5 rfl
theorem d_Mo_settle_10 : decode prog_14_method_24_code 10 = .ok (.iload_n 3, 1) := dd_at dd_Mo_settle 6 rfl
theorem d_Mo_settle_11 : decode prog_14_method_24_code 11 = .ok (.iconst 1, 1) := dd_at dd_Mo_settle 7 rfl
theorem d_Mo_settle_12 : decode prog_14_method_24_code 12 = .ok (.isub, 1) := dd_at dd_Mo_settle 8 rfl
theorem d_Mo_settle_13 : decode prog_14_method_24_code 13 = .ok (.iaload, 1) := dd_at dd_Mo_settle 9 rfl
theorem d_Mo_settle_14 : decode prog_14_method_24_code 14 = .ok (.bipush (100), 2) := dd_at dd_Mo_settle 10 rfl
theorem d_Mo_settle_16 : decode prog_14_method_24_code 16 = .ok (.if_icmp .ge (37), 3) := dd_at dd_Mo_settle 11 rfl
theorem d_Mo_settle_19 : decode prog_14_method_24_code 19 = .ok (.aload_n 0, 1) := dd_at dd_Mo_settle 12 rfl
theorem d_Mo_settle_20 : decode prog_14_method_24_code 20 = .ok (.aload_n 0, 1) := dd_at dd_Mo_settle 13 rfl
theorem d_Mo_settle_21 : decode prog_14_method_24_code 21 = .ok (.getfield 58, 3) := dd_at dd_Mo_settle 14 rfl
theorem d_Mo_settle_24 : decode prog_14_method_24_code 24 = .ok (.iload_n 3, 1) := dd_at dd_Mo_settle 15 rfl
theorem d_Mo_settle_25 : decode prog_14_method_24_code 25 = .ok (.iconst 1, 1) := dd_at dd_Mo_settle 16 rfl
theorem d_Mo_settle_26 : decode prog_14_method_24_code 26 = .ok (.isub, 1) := dd_at dd_Mo_settle 17 rfl
theorem d_Mo_settle_27 : decode prog_14_method_24_code 27 = .ok (.iaload, 1) := dd_at dd_Mo_settle 18 rfl
theorem d_Mo_settle_28 : decode prog_14_method_24_code 28 = .ok (.invokevirtual 251, 3) := dd_at dd_Mo_settle 19 rfl
theorem d_Mo_settle_31 : decode prog_14_method_24_code 31 = .ok (.iload_n 2, 1) := dd_at dd_Mo_settle 20 rfl
theorem d_Mo_settle_32 : decode prog_14_method_24_code 32 = .ok (.if_icmp .lt (21), 3) := dd_at dd_Mo_settle 21 rfl
theorem d_Mo_settle_35 : decode prog_14_method_24_code 35 = .ok (.aload_n 0, 1) := dd_at dd_Mo_settle 22 rfl
theorem d_Mo_settle_36 : decode prog_14_method_24_code 36 = .ok (.aload_n 0, 1) := dd_at dd_Mo_settle 23 rfl
theorem d_Mo_settle_37 : decode prog_14_method_24_code 37 = .ok (.getfield 58, 3) := dd_at dd_Mo_settle 24 rfl
theorem d_Mo_settle_40 : decode prog_14_method_24_code 40 = .ok (.iload_n 3, 1) := dd_at dd_Mo_settle 25 rfl
theorem d_Mo_settle_41 : decode prog_14_method_24_code 41 = .ok (.iconst 1, 1) := dd_at dd_Mo_settle 26 rfl
theorem d_Mo_settle_42 : decode prog_14_method_24_code 42 = .ok (.isub, 1) := dd_at dd_Mo_settle 27 rfl
theorem d_Mo_settle_43 : decode prog_14_method_24_code 43 = .ok (.iaload, 1) := dd_at dd_Mo_settle 28 rfl
theorem d_Mo_settle_44 : decode prog_14_method_24_code 44 = .ok (.invokevirtual 244, 3) := dd_at dd_Mo_settle 29 rfl
theorem d_Mo_settle_47 : decode prog_14_method_24_code 47 = .ok (.iinc 3 (-1), 3) := dd_at dd_Mo_settle 30 rfl
theorem d_Mo_settle_50 : decode prog_14_method_24_code 50 = .ok (.goto (-48), 3) := dd_at dd_Mo_settle 31 rfl
theorem d_Mo_settle_53 : decode prog_14_method_24_code 53 = .ok (.iload_n 3, 1) := dd_at dd_Mo_settle 32 rfl
theorem d_Mo_settle_54 : decode prog_14_method_24_code 54 = .ok (.ireturn, 1) := dd_at dd_Mo_settle 33 rfl
def ld_Mo_partMark : List (Nat × Instr × Nat) := [(0, .aload_n 0, 1), (1, .invokevirtual 156, 3), (4, .istore_n 3, 1), (5, .aload_n 0, 1), (6, .iconst 1, 1), (7, .invokevirtual 230, 3), (10, .istore 4, 2), (12, .aload_n 0, 1), (13, .getfield 25, 3), (16, .bipush (6), 2), (18, .if_icmp .ge (7), 3), (21, .iconst 1, 1), (22, .goto (4), 3), (25, .iconst 0, 1), (26, .istore 5, 2), (28, .iload 5, 2), (30, .ifCond .ne (24), 3), (33, .iload_n 3, 1), (34, .bipush (40), 2), (36, .if_icmp .eq (11), 3), (39, .aload_n 0, 1), (40, .iload_n 3, 1), (41, .invokevirtual 241, 3), (44, .ifCond .eq (10), 3), (47, .aload_n 0, 1), (48, .iconst 1, 1), (49, .putfield 31, 3), (52, .iconst 0, 1), (53, .ireturn, 1), (54, .iload_n 3, 1), (55, .bipush (40), 2), (57, .if_icmp .ne (6), 3), (60, .bipush (100), 2), (62, .ireturn, 1), (63, .aload_n 0, 1), (64, .iload_n 3, 1), (65, .invokevirtual 241, 3), (68, .ifCond .eq (21), 3), (71, .aload_n 0, 1), (72, .dup, 1), (73, .getfield 22, 3), (76, .iconst 1, 1), (77, .iadd, 1), (78, .putfield 22, 3), (81, .bipush (110), 2), (83, .iload_n 3, 1), (84, .iadd, 1), (85, .bipush (80), 2), (87, .isub, 1), (88, .ireturn, 1), (89, .iload_n 3, 1), (90, .bipush (48), 2), (92, .if_icmp .lt (15), 3), (95, .iload_n 3, 1), (96, .bipush (57), 2), (98, .if_icmp .gt (9), 3), (101, .aload_n 0, 1), (102, .invokevirtual 254, 3), (105, .iconst 0, 1), (106, .ireturn, 1), (107, .iload 5, 2), (109, .ifCond .eq (28), 3), (112, .iload_n 3, 1), (113, .bipush (65), 2), (115, .if_icmp .ne (22), 3), (118, .iload 4, 2), (120, .bipush (66), 2), (122, .if_icmp .ne (15), 3), (125, .aload_n 0, 1), (126, .bipush (24), 2), (128, .bipush (24), 2), (130, .invokevirtual 257, 3), (133, .pop, 1), (134, .bipush (101), 2), (136, .ireturn, 1), (137, .iload 5, 2), (139, .ifCond .eq (28), 3), (142, .iload_n 3, 1), (143, .bipush (73), 2), (145, .if_icmp .ne (22), 3), (148, .iload 4, 2), (150, .bipush (78), 2), (152, .if_icmp .ne (15), 3), (155, .aload_n 0, 1), (156, .bipush (25), 2), (158, .bipush (25), 2), (160, .invokevirtual 257, 3), (163, .pop, 1), (164, .bipush (102), 2), (166, .ireturn, 1), (167, .iload 5, 2), (169, .ifCond .eq (46), 3), (172, .iload_n 3, 1), (173, .bipush (83), 2), (175, .if_icmp .ne (40), 3), (178, .iload 4, 2), (180, .bipush (71), 2), (182, .if_icmp .ne (33), 3), (185, .iload_n 1, 1), (186, .ifCond .eq (17), 3), (189, .iload_n 2, 1), (190, .ifCond .eq (13), 3), (193, .aload_n 0, 1), (194, .iconst 2, 1), (195, .invokevirtual 230, 3), (198, .bipush (79), 2), (200, .if_icmp .eq (15), 3), (203, .aload_n 0, 1), (204, .bipush (26), 2), (206, .bipush (26), 2), (208, .invokevirtual 257, 3), (211, .pop, 1), (212, .bipush (103), 2), (214, .ireturn, 1), (215, .iload 5, 2), (217, .ifCond .eq (88), 3), (220, .iload_n 3, 1), (221, .bipush (70), 2), (223, .if_icmp .ne (82), 3), (226, .iload 4, 2), (228, .bipush (78), 2), (230, .if_icmp .ne (75), 3), (233, .aload_n 0, 1), (234, .dup, 1), (235, .getfield 22, 3), (238, .iconst 2, 1), (239, .iadd, 1), (240, .putfield 22, 3), (243, .aload_n 0, 1), (244, .invokevirtual 156, 3), (247, .istore 6, 2), (249, .iload 6, 2), (251, .bipush (65), 2), (253, .if_icmp .lt (10), 3), (256, .iload 6, 2), (258, .bipush (67), 2), (260, .if_icmp .le (11), 3), (263, .aload_n 0, 1), (264, .iconst 1, 1), (265, .putfield 31, 3), (268, .goto (13), 3), (271, .aload_n 0, 1), (272, .dup, 1), (273, .getfield 22, 3), (276, .iconst 1, 1), (277, .iadd, 1), (278, .putfield 22, 3), (281, .aload_n 0, 1), (282, .bipush (12), 2), (284, .invokevirtual 244, 3), (287, .aload_n 0, 1), (288, .iload 6, 2), (290, .bipush (65), 2), (292, .isub, 1), (293, .invokevirtual 244, 3), (296, .bipush (104), 2), (298, .iload 6, 2), (300, .iadd, 1), (301, .bipush (65), 2), (303, .isub, 1), (304, .ireturn, 1), (305, .aload_n 0, 1), (306, .invokevirtual 261, 3), (309, .istore 6, 2), (311, .aload_n 0, 1), (312, .iconst 1, 1), (313, .invokevirtual 244, 3), (316, .aload_n 0, 1), (317, .iload 6, 2), (319, .invokevirtual 244, 3), (322, .iconst 0, 1), (323, .ireturn, 1)]
theorem dd_Mo_partMark : (ld_Mo_partMark).all (dOK prog_14_method_25_code) = true := by decide +kernel
theorem d_Mo_partMark_0 : decode prog_14_method_25_code 0 = .ok (.aload_n 0, 1) := dd_at dd_Mo_partMark 0 rfl
theorem d_Mo_partMark_1 : decode prog_14_method_25_code 1 = .ok (.invokevirtual 156, 3) := dd_at dd_Mo_partMark 1 rfl
theorem d_Mo_partMark_4 : decode prog_14_method_25_code 4 = .ok (.istore_n 3, 1) := dd_at dd_Mo_partMark 2 rfl
theorem d_Mo_partMark_5 : decode prog_14_method_25_code 5 = .ok (.aload_n 0, 1) := dd_at dd_Mo_partMark 3 rfl
theorem d_Mo_partMark_6 : decode prog_14_method_25_code 6 = .ok (.iconst 1, 1) := dd_at dd_Mo_partMark 4 rfl
theorem d_Mo_partMark_7 : decode prog_14_method_25_code 7 = .ok (.invokevirtual 230, 3) := dd_at dd_Mo_partMark 5 rfl
theorem d_Mo_partMark_10 : decode prog_14_method_25_code 10 = .ok (.istore 4, 2) := dd_at dd_Mo_partMark 6 rfl
theorem d_Mo_partMark_12 : decode prog_14_method_25_code 12 = .ok (.aload_n 0, 1) := dd_at dd_Mo_partMark 7 rfl
theorem d_Mo_partMark_13 : decode prog_14_method_25_code 13 = .ok (.getfield 25, 3) := dd_at dd_Mo_partMark 8 rfl
theorem d_Mo_partMark_16 : decode prog_14_method_25_code 16 = .ok (.bipush (6), 2) := dd_at dd_Mo_partMark 9 rfl
theorem d_Mo_partMark_18 : decode prog_14_method_25_code 18 = .ok (.if_icmp .ge (7), 3) := dd_at dd_Mo_partMark 10 rfl
theorem d_Mo_partMark_21 : decode prog_14_method_25_code 21 = .ok (.iconst 1, 1) := dd_at dd_Mo_partMark 11 rfl
theorem d_Mo_partMark_22 : decode prog_14_method_25_code 22 = .ok (.goto (4), 3) := dd_at dd_Mo_partMark 12 rfl
theorem d_Mo_partMark_25 : decode prog_14_method_25_code 25 = .ok (.iconst 0, 1) := dd_at dd_Mo_partMark 13 rfl
theorem d_Mo_partMark_26 : decode prog_14_method_25_code 26 = .ok (.istore 5, 2) := dd_at dd_Mo_partMark 14 rfl
theorem d_Mo_partMark_28 : decode prog_14_method_25_code 28 = .ok (.iload 5, 2) := dd_at dd_Mo_partMark 15 rfl
theorem d_Mo_partMark_30 : decode prog_14_method_25_code 30 = .ok (.ifCond .ne (24), 3) := dd_at dd_Mo_partMark 16 rfl
theorem d_Mo_partMark_33 : decode prog_14_method_25_code 33 = .ok (.iload_n 3, 1) := dd_at dd_Mo_partMark 17 rfl
theorem d_Mo_partMark_34 : decode prog_14_method_25_code 34 = .ok (.bipush (40), 2) := dd_at dd_Mo_partMark 18 rfl
theorem d_Mo_partMark_36 : decode prog_14_method_25_code 36 = .ok (.if_icmp .eq (11), 3) := dd_at dd_Mo_partMark 19 rfl
theorem d_Mo_partMark_39 : decode prog_14_method_25_code 39 = .ok (.aload_n 0, 1) := dd_at dd_Mo_partMark 20 rfl
theorem d_Mo_partMark_40 : decode prog_14_method_25_code 40 = .ok (.iload_n 3, 1) := dd_at dd_Mo_partMark 21 rfl
theorem d_Mo_partMark_41 : decode prog_14_method_25_code 41 = .ok (.invokevirtual 241, 3) := dd_at dd_Mo_partMark 22 rfl
theorem d_Mo_partMark_44 : decode prog_14_method_25_code 44 = .ok (.ifCond .eq (10), 3) := dd_at dd_Mo_partMark 23 rfl
theorem d_Mo_partMark_47 : decode prog_14_method_25_code 47 = .ok (.aload_n 0, 1) := dd_at dd_Mo_partMark 24 rfl
theorem d_Mo_partMark_48 : decode prog_14_method_25_code 48 = .ok (.iconst 1, 1) := dd_at dd_Mo_partMark 25 rfl
theorem d_Mo_partMark_49 : decode prog_14_method_25_code 49 = .ok (.putfield 31, 3) := dd_at dd_Mo_partMark 26 rfl
theorem d_Mo_partMark_52 : decode prog_14_method_25_code 52 = .ok (.iconst 0, 1) := dd_at dd_Mo_partMark 27 rfl
theorem d_Mo_partMark_53 : decode prog_14_method_25_code 53 = .ok (.ireturn, 1) := dd_at dd_Mo_partMark 28 rfl
theorem d_Mo_partMark_54 : decode prog_14_method_25_code 54 = .ok (.iload_n 3, 1) := dd_at dd_Mo_partMark 29 rfl
theorem d_Mo_partMark_55 : decode prog_14_method_25_code 55 = .ok (.bipush (40), 2) := dd_at dd_Mo_partMark 30 rfl
theorem d_Mo_partMark_57 : decode prog_14_method_25_code 57 = .ok (.if_icmp .ne (6), 3) := dd_at dd_Mo_partMark 31 rfl
theorem d_Mo_partMark_60 : decode prog_14_method_25_code 60 = .ok (.bipush (100), 2) := dd_at dd_Mo_partMark 32 rfl
theorem d_Mo_partMark_62 : decode prog_14_method_25_code 62 = .ok (.ireturn, 1) := dd_at dd_Mo_partMark 33 rfl
theorem d_Mo_partMark_63 : decode prog_14_method_25_code 63 = .ok (.aload_n 0, 1) := dd_at dd_Mo_partMark 34 rfl
theorem d_Mo_partMark_64 : decode prog_14_method_25_code 64 = .ok (.iload_n 3, 1) := dd_at dd_Mo_partMark 35 rfl
theorem d_Mo_partMark_65 : decode prog_14_method_25_code 65 = .ok (.invokevirtual 241, 3) := dd_at dd_Mo_partMark 36 rfl
theorem d_Mo_partMark_68 : decode prog_14_method_25_code 68 = .ok (.ifCond .eq (21), 3) := dd_at dd_Mo_partMark 37 rfl
theorem d_Mo_partMark_71 : decode prog_14_method_25_code 71 = .ok (.aload_n 0, 1) := dd_at dd_Mo_partMark 38 rfl
theorem d_Mo_partMark_72 : decode prog_14_method_25_code 72 = .ok (.dup, 1) := dd_at dd_Mo_partMark 39 rfl
theorem d_Mo_partMark_73 : decode prog_14_method_25_code 73 = .ok (.getfield 22, 3) := dd_at dd_Mo_partMark 40 rfl
theorem d_Mo_partMark_76 : decode prog_14_method_25_code 76 = .ok (.iconst 1, 1) := dd_at dd_Mo_partMark 41 rfl
theorem d_Mo_partMark_77 : decode prog_14_method_25_code 77 = .ok (.iadd, 1) := dd_at dd_Mo_partMark 42 rfl
theorem d_Mo_partMark_78 : decode prog_14_method_25_code 78 = .ok (.putfield 22, 3) := dd_at dd_Mo_partMark 43 rfl
theorem d_Mo_partMark_81 : decode prog_14_method_25_code 81 = .ok (.bipush (110), 2) := dd_at dd_Mo_partMark 44 rfl
theorem d_Mo_partMark_83 : decode prog_14_method_25_code 83 = .ok (.iload_n 3, 1) := dd_at dd_Mo_partMark 45 rfl
theorem d_Mo_partMark_84 : decode prog_14_method_25_code 84 = .ok (.iadd, 1) := dd_at dd_Mo_partMark 46 rfl
theorem d_Mo_partMark_85 : decode prog_14_method_25_code 85 = .ok (.bipush (80), 2) := dd_at dd_Mo_partMark 47 rfl
theorem d_Mo_partMark_87 : decode prog_14_method_25_code 87 = .ok (.isub, 1) := dd_at dd_Mo_partMark 48 rfl
theorem d_Mo_partMark_88 : decode prog_14_method_25_code 88 = .ok (.ireturn, 1) := dd_at dd_Mo_partMark 49 rfl
theorem d_Mo_partMark_89 : decode prog_14_method_25_code 89 = .ok (.iload_n 3, 1) := dd_at dd_Mo_partMark 50 rfl
theorem d_Mo_partMark_90 : decode prog_14_method_25_code 90 = .ok (.bipush (48), 2) := dd_at dd_Mo_partMark 51 rfl
theorem d_Mo_partMark_92 : decode prog_14_method_25_code 92 = .ok (.if_icmp .lt (15), 3) := dd_at dd_Mo_partMark 52 rfl
theorem d_Mo_partMark_95 : decode prog_14_method_25_code 95 = .ok (.iload_n 3, 1) := dd_at dd_Mo_partMark 53 rfl
theorem d_Mo_partMark_96 : decode prog_14_method_25_code 96 = .ok (.bipush (57), 2) := dd_at dd_Mo_partMark 54 rfl
theorem d_Mo_partMark_98 : decode prog_14_method_25_code 98 = .ok (.if_icmp .gt (9), 3) := dd_at dd_Mo_partMark 55 rfl
theorem d_Mo_partMark_101 : decode prog_14_method_25_code 101 = .ok (.aload_n 0, 1) := dd_at dd_Mo_partMark 56 rfl
theorem d_Mo_partMark_102 : decode prog_14_method_25_code 102 = .ok (.invokevirtual 254, 3) := dd_at dd_Mo_partMark 57 rfl
theorem d_Mo_partMark_105 : decode prog_14_method_25_code 105 = .ok (.iconst 0, 1) := dd_at dd_Mo_partMark 58 rfl
theorem d_Mo_partMark_106 : decode prog_14_method_25_code 106 = .ok (.ireturn, 1) := dd_at dd_Mo_partMark 59 rfl
theorem d_Mo_partMark_107 : decode prog_14_method_25_code 107 = .ok (.iload 5, 2) := dd_at dd_Mo_partMark 60 rfl
theorem d_Mo_partMark_109 : decode prog_14_method_25_code 109 = .ok (.ifCond .eq (28), 3) := dd_at dd_Mo_partMark 61 rfl
theorem d_Mo_partMark_112 : decode prog_14_method_25_code 112 = .ok (.iload_n 3, 1) := dd_at dd_Mo_partMark 62 rfl
theorem d_Mo_partMark_113 : decode prog_14_method_25_code 113 = .ok (.bipush (65), 2) := dd_at dd_Mo_partMark 63 rfl
theorem d_Mo_partMark_115 : decode prog_14_method_25_code 115 = .ok (.if_icmp .ne (22), 3) := dd_at dd_Mo_partMark 64 rfl
theorem d_Mo_partMark_118 : decode prog_14_method_25_code 118 = .ok (.iload 4, 2) := dd_at dd_Mo_partMark 65 rfl
theorem d_Mo_partMark_120 : decode prog_14_method_25_code 120 = .ok (.bipush (66), 2) := dd_at dd_Mo_partMark 66 rfl
theorem d_Mo_partMark_122 : decode prog_14_method_25_code 122 = .ok (.if_icmp .ne (15), 3) := dd_at dd_Mo_partMark 67 rfl
theorem d_Mo_partMark_125 : decode prog_14_method_25_code 125 = .ok (.aload_n 0, 1) := dd_at dd_Mo_partMark 68 rfl
theorem d_Mo_partMark_126 : decode prog_14_method_25_code 126 = .ok (.bipush (24), 2) := dd_at dd_Mo_partMark 69 rfl
theorem d_Mo_partMark_128 : decode prog_14_method_25_code 128 = .ok (.bipush (24), 2) := dd_at dd_Mo_partMark 70 rfl
theorem d_Mo_partMark_130 : decode prog_14_method_25_code 130 = .ok (.invokevirtual 257, 3) := dd_at dd_Mo_partMark 71 rfl
theorem d_Mo_partMark_133 : decode prog_14_method_25_code 133 = .ok (.pop, 1) := dd_at dd_Mo_partMark 72 rfl
theorem d_Mo_partMark_134 : decode prog_14_method_25_code 134 = .ok (.bipush (101), 2) := dd_at dd_Mo_partMark 73 rfl
theorem d_Mo_partMark_136 : decode prog_14_method_25_code 136 = .ok (.ireturn, 1) := dd_at dd_Mo_partMark 74 rfl
theorem d_Mo_partMark_137 : decode prog_14_method_25_code 137 = .ok (.iload 5, 2) := dd_at dd_Mo_partMark 75 rfl
theorem d_Mo_partMark_139 : decode prog_14_method_25_code 139 = .ok (.ifCond .eq (28), 3) := dd_at dd_Mo_partMark 76 rfl
theorem d_Mo_partMark_142 : decode prog_14_method_25_code 142 = .ok (.iload_n 3, 1) := dd_at dd_Mo_partMark 77 rfl
theorem d_Mo_partMark_143 : decode prog_14_method_25_code 143 = .ok (.bipush (73), 2) := dd_at dd_Mo_partMark 78 rfl
theorem d_Mo_partMark_145 : decode prog_14_method_25_code 145 = .ok (.if_icmp .ne (22), 3) := dd_at dd_Mo_partMark 79 rfl
theorem d_Mo_partMark_148 : decode prog_14_method_25_code 148 = .ok (.iload 4, 2) := dd_at dd_Mo_partMark 80 rfl
theorem d_Mo_partMark_150 : decode prog_14_method_25_code 150 = .ok (.bipush (78), 2) := dd_at dd_Mo_partMark 81 rfl
theorem d_Mo_partMark_152 : decode prog_14_method_25_code 152 = .ok (.if_icmp .ne (15), 3) := dd_at dd_Mo_partMark 82 rfl
theorem d_Mo_partMark_155 : decode prog_14_method_25_code 155 = .ok (.aload_n 0, 1) := dd_at dd_Mo_partMark 83 rfl
theorem d_Mo_partMark_156 : decode prog_14_method_25_code 156 = .ok (.bipush (25), 2) := dd_at dd_Mo_partMark 84 rfl
theorem d_Mo_partMark_158 : decode prog_14_method_25_code 158 = .ok (.bipush (25), 2) := dd_at dd_Mo_partMark 85 rfl
theorem d_Mo_partMark_160 : decode prog_14_method_25_code 160 = .ok (.invokevirtual 257, 3) := dd_at dd_Mo_partMark 86 rfl
theorem d_Mo_partMark_163 : decode prog_14_method_25_code 163 = .ok (.pop, 1) := dd_at dd_Mo_partMark 87 rfl
theorem d_Mo_partMark_164 : decode prog_14_method_25_code 164 = .ok (.bipush (102), 2) := dd_at dd_Mo_partMark 88 rfl
theorem d_Mo_partMark_166 : decode prog_14_method_25_code 166 = .ok (.ireturn, 1) := dd_at dd_Mo_partMark 89 rfl
theorem d_Mo_partMark_167 : decode prog_14_method_25_code 167 = .ok (.iload 5, 2) := dd_at dd_Mo_partMark 90 rfl
theorem d_Mo_partMark_169 : decode prog_14_method_25_code 169 = .ok (.ifCond .eq (46), 3) := dd_at dd_Mo_partMark 91 rfl
theorem d_Mo_partMark_172 : decode prog_14_method_25_code 172 = .ok (.iload_n 3, 1) := dd_at dd_Mo_partMark 92 rfl
theorem d_Mo_partMark_173 : decode prog_14_method_25_code 173 = .ok (.bipush (83), 2) := dd_at dd_Mo_partMark 93 rfl
theorem d_Mo_partMark_175 : decode prog_14_method_25_code 175 = .ok (.if_icmp .ne (40), 3) := dd_at dd_Mo_partMark 94 rfl
theorem d_Mo_partMark_178 : decode prog_14_method_25_code 178 = .ok (.iload 4, 2) := dd_at dd_Mo_partMark 95 rfl
theorem d_Mo_partMark_180 : decode prog_14_method_25_code 180 = .ok (.bipush (71), 2) := dd_at dd_Mo_partMark 96 rfl
theorem d_Mo_partMark_182 : decode prog_14_method_25_code 182 = .ok (.if_icmp .ne (33), 3) := dd_at dd_Mo_partMark 97 rfl
theorem d_Mo_partMark_185 : decode prog_14_method_25_code 185 = .ok (.iload_n 1, 1) := dd_at dd_Mo_partMark 98 rfl
theorem d_Mo_partMark_186 : decode prog_14_method_25_code 186 = .ok (.ifCond .eq (17), 3) := dd_at dd_Mo_partMark 99 rfl
theorem d_Mo_partMark_189 : decode prog_14_method_25_code 189 = .ok (.iload_n 2, 1) := dd_at dd_Mo_partMark 100 rfl
theorem d_Mo_partMark_190 : decode prog_14_method_25_code 190 = .ok (.ifCond .eq (13), 3) := dd_at dd_Mo_partMark 101 rfl
theorem d_Mo_partMark_193 : decode prog_14_method_25_code 193 = .ok (.aload_n 0, 1) := dd_at dd_Mo_partMark 102 rfl
theorem d_Mo_partMark_194 : decode prog_14_method_25_code 194 = .ok (.iconst 2, 1) := dd_at dd_Mo_partMark 103 rfl
theorem d_Mo_partMark_195 : decode prog_14_method_25_code 195 = .ok (.invokevirtual 230, 3) := dd_at dd_Mo_partMark 104 rfl
theorem d_Mo_partMark_198 : decode prog_14_method_25_code 198 = .ok (.bipush (79), 2) := dd_at dd_Mo_partMark 105 rfl
theorem d_Mo_partMark_200 : decode prog_14_method_25_code 200 = .ok (.if_icmp .eq (15), 3) := dd_at dd_Mo_partMark 106 rfl
theorem d_Mo_partMark_203 : decode prog_14_method_25_code 203 = .ok (.aload_n 0, 1) := dd_at dd_Mo_partMark 107 rfl
theorem d_Mo_partMark_204 : decode prog_14_method_25_code 204 = .ok (.bipush (26), 2) := dd_at dd_Mo_partMark 108 rfl
theorem d_Mo_partMark_206 : decode prog_14_method_25_code 206 = .ok (.bipush (26), 2) := dd_at dd_Mo_partMark 109 rfl
theorem d_Mo_partMark_208 : decode prog_14_method_25_code 208 = .ok (.invokevirtual 257, 3) := dd_at dd_Mo_partMark 110 rfl
theorem d_Mo_partMark_211 : decode prog_14_method_25_code 211 = .ok (.pop, 1) := dd_at dd_Mo_partMark 111 rfl
theorem d_Mo_partMark_212 : decode prog_14_method_25_code 212 = .ok (.bipush (103), 2) := dd_at dd_Mo_partMark 112 rfl
theorem d_Mo_partMark_214 : decode prog_14_method_25_code 214 = .ok (.ireturn, 1) := dd_at dd_Mo_partMark 113 rfl
theorem d_Mo_partMark_215 : decode prog_14_method_25_code 215 = .ok (.iload 5, 2) := dd_at dd_Mo_partMark 114 rfl
theorem d_Mo_partMark_217 : decode prog_14_method_25_code 217 = .ok (.ifCond .eq (88), 3) := dd_at dd_Mo_partMark 115 rfl
theorem d_Mo_partMark_220 : decode prog_14_method_25_code 220 = .ok (.iload_n 3, 1) := dd_at dd_Mo_partMark 116 rfl
theorem d_Mo_partMark_221 : decode prog_14_method_25_code 221 = .ok (.bipush (70), 2) := dd_at dd_Mo_partMark 117 rfl
theorem d_Mo_partMark_223 : decode prog_14_method_25_code 223 = .ok (.if_icmp .ne (82), 3) := dd_at dd_Mo_partMark 118 rfl
theorem d_Mo_partMark_226 : decode prog_14_method_25_code 226 = .ok (.iload 4, 2) := dd_at dd_Mo_partMark 119 rfl
theorem d_Mo_partMark_228 : decode prog_14_method_25_code 228 = .ok (.bipush (78), 2) := dd_at dd_Mo_partMark 120 rfl
theorem d_Mo_partMark_230 : decode prog_14_method_25_code 230 = .ok (.if_icmp .ne (75), 3) := dd_at dd_Mo_partMark 121 rfl
theorem d_Mo_partMark_233 : decode prog_14_method_25_code 233 = .ok (.aload_n 0, 1) := dd_at dd_Mo_partMark 122 rfl
theorem d_Mo_partMark_234 : decode prog_14_method_25_code 234 = .ok (.dup, 1) := dd_at dd_Mo_partMark 123 rfl
theorem d_Mo_partMark_235 : decode prog_14_method_25_code 235 = .ok (.getfield 22, 3) := dd_at dd_Mo_partMark 124 rfl
theorem d_Mo_partMark_238 : decode prog_14_method_25_code 238 = .ok (.iconst 2, 1) := dd_at dd_Mo_partMark 125 rfl
theorem d_Mo_partMark_239 : decode prog_14_method_25_code 239 = .ok (.iadd, 1) := dd_at dd_Mo_partMark 126 rfl
theorem d_Mo_partMark_240 : decode prog_14_method_25_code 240 = .ok (.putfield 22, 3) := dd_at dd_Mo_partMark 127 rfl
theorem d_Mo_partMark_243 : decode prog_14_method_25_code 243 = .ok (.aload_n 0, 1) := dd_at dd_Mo_partMark 128 rfl
theorem d_Mo_partMark_244 : decode prog_14_method_25_code 244 = .ok (.invokevirtual 156, 3) := dd_at dd_Mo_partMark 129 rfl
theorem d_Mo_partMark_247 : decode prog_14_method_25_code 247 = .ok (.istore 6, 2) := dd_at dd_Mo_partMark 130 rfl
theorem d_Mo_partMark_249 : decode prog_14_method_25_code 249 = .ok (.iload 6, 2) := dd_at dd_Mo_partMark 131 rfl
theorem d_Mo_partMark_251 : decode prog_14_method_25_code 251 = .ok (.bipush (65), 2) := dd_at dd_Mo_partMark 132 rfl
theorem d_Mo_partMark_253 : decode prog_14_method_25_code 253 = .ok (.if_icmp .lt (10), 3) := dd_at dd_Mo_partMark 133 rfl
theorem d_Mo_partMark_256 : decode prog_14_method_25_code 256 = .ok (.iload 6, 2) := dd_at dd_Mo_partMark 134 rfl
theorem d_Mo_partMark_258 : decode prog_14_method_25_code 258 = .ok (.bipush (67), 2) := dd_at dd_Mo_partMark 135 rfl
theorem d_Mo_partMark_260 : decode prog_14_method_25_code 260 = .ok (.if_icmp .le (11), 3) := dd_at dd_Mo_partMark 136 rfl
theorem d_Mo_partMark_263 : decode prog_14_method_25_code 263 = .ok (.aload_n 0, 1) := dd_at dd_Mo_partMark 137 rfl
theorem d_Mo_partMark_264 : decode prog_14_method_25_code 264 = .ok (.iconst 1, 1) := dd_at dd_Mo_partMark 138 rfl
theorem d_Mo_partMark_265 : decode prog_14_method_25_code 265 = .ok (.putfield 31, 3) := dd_at dd_Mo_partMark 139 rfl
theorem d_Mo_partMark_268 : decode prog_14_method_25_code 268 = .ok (.goto (13), 3) := dd_at dd_Mo_partMark 140 rfl
theorem d_Mo_partMark_271 : decode prog_14_method_25_code 271 = .ok (.aload_n 0, 1) := dd_at dd_Mo_partMark 141 rfl
theorem d_Mo_partMark_272 : decode prog_14_method_25_code 272 = .ok (.dup, 1) := dd_at dd_Mo_partMark 142 rfl
theorem d_Mo_partMark_273 : decode prog_14_method_25_code 273 = .ok (.getfield 22, 3) := dd_at dd_Mo_partMark 143 rfl
theorem d_Mo_partMark_276 : decode prog_14_method_25_code 276 = .ok (.iconst 1, 1) := dd_at dd_Mo_partMark 144 rfl
theorem d_Mo_partMark_277 : decode prog_14_method_25_code 277 = .ok (.iadd, 1) := dd_at dd_Mo_partMark 145 rfl
theorem d_Mo_partMark_278 : decode prog_14_method_25_code 278 = .ok (.putfield 22, 3) := dd_at dd_Mo_partMark 146 rfl
theorem d_Mo_partMark_281 : decode prog_14_method_25_code 281 = .ok (.aload_n 0, 1) := dd_at dd_Mo_partMark 147 rfl
theorem d_Mo_partMark_282 : decode prog_14_method_25_code 282 = .ok (.bipush (12), 2) := dd_at dd_Mo_partMark 148 rfl
theorem d_Mo_partMark_284 : decode prog_14_method_25_code 284 = .ok (.invokevirtual 244, 3) := dd_at dd_Mo_partMark 149 rfl
theorem d_Mo_partMark_287 : decode prog_14_method_25_code 287 = .ok (.aload_n 0, 1) := dd_at dd_Mo_partMark 150 rfl
theorem d_Mo_partMark_288 : decode prog_14_method_25_code 288 = .ok (.iload 6, 2) := dd_at dd_Mo_partMark 151 rfl
theorem d_Mo_partMark_290 : decode prog_14_method_25_code 290 = .ok (.bipush (65), 2) := dd_at dd_Mo_partMark 152 rfl
theorem d_Mo_partMark_292 : decode prog_14_method_25_code 292 = .ok (.isub, 1) := dd_at dd_Mo_partMark 153 rfl
theorem d_Mo_partMark_293 : decode prog_14_method_25_code 293 = .ok (.invokevirtual 244, 3) := dd_at dd_Mo_partMark 154 rfl
theorem d_Mo_partMark_296 : decode prog_14_method_25_code 296 = .ok (.bipush (104), 2) := dd_at dd_Mo_partMark 155 rfl
theorem d_Mo_partMark_298 : decode prog_14_method_25_code 298 = .ok (.iload 6, 2) := dd_at dd_Mo_partMark 156 rfl
theorem d_Mo_partMark_300 : decode prog_14_method_25_code 300 = .ok (.iadd, 1) := dd_at dd_Mo_partMark 157 rfl
theorem d_Mo_partMark_301 : decode prog_14_method_25_code 301 = .ok (.bipush (65), 2) := dd_at dd_Mo_partMark 158 rfl
theorem d_Mo_partMark_303 : decode prog_14_method_25_code 303 = .ok (.isub, 1) := dd_at dd_Mo_partMark 159 rfl
theorem d_Mo_partMark_304 : decode prog_14_method_25_code 304 = .ok (.ireturn, 1) := dd_at dd_Mo_partMark 160 rfl
theorem d_Mo_partMark_305 : decode prog_14_method_25_code 305 = .ok (.aload_n 0, 1) := dd_at dd_Mo_partMark 161 rfl
theorem d_Mo_partMark_306 : decode prog_14_method_25_code 306 = .ok (.invokevirtual 261, 3) := dd_at dd_Mo_partMark 162 rfl
theorem d_Mo_partMark_309 : decode prog_14_method_25_code 309 = .ok (.istore 6, 2) := dd_at dd_Mo_partMark 163 rfl
theorem d_Mo_partMark_311 : decode prog_14_method_25_code 311 = .ok (.aload_n 0, 1) := dd_at dd_Mo_partMark 164 rfl
theorem d_Mo_partMark_312 : decode prog_14_method_25_code 312 = .ok (.iconst 1, 1) := dd_at dd_Mo_partMark 165 rfl
theorem d_Mo_partMark_313 : decode prog_14_method_25_code 313 = .ok (.invokevirtual 244, 3) := dd_at dd_Mo_partMark 166 rfl
theorem d_Mo_partMark_316 : decode prog_14_method_25_code 316 = .ok (.aload_n 0, 1) := dd_at dd_Mo_partMark 167 rfl
theorem d_Mo_partMark_317 : decode prog_14_method_25_code 317 = .ok (.iload 6, 2) := dd_at dd_Mo_partMark 168 rfl
theorem d_Mo_partMark_319 : decode prog_14_method_25_code 319 = .ok (.invokevirtual 244, 3) := dd_at dd_Mo_partMark 169 rfl
theorem d_Mo_partMark_322 : decode prog_14_method_25_code 322 = .ok (.iconst 0, 1) := dd_at dd_Mo_partMark 170 rfl
theorem d_Mo_partMark_323 : decode prog_14_method_25_code 323 = .ok (.ireturn, 1) := dd_at dd_Mo_partMark 171 rfl
def ld_Mo_closeMark : List (Nat × Instr × Nat) := [(0, .iload_n 1, 1), (1, .bipush (100), 2), (3, .if_icmp .ne (4), 3), (6, .return_, 1), (7, .iload_n 1, 1), (8, .bipush (104), 2), (10, .if_icmp .ge (17), 3), (13, .aload_n 0, 1), (14, .bipush (9), 2), (16, .iload_n 1, 1), (17, .iadd, 1), (18, .bipush (101), 2), (20, .isub, 1), (21, .invokevirtual 244, 3), (24, .goto (39), 3), (27, .iload_n 1, 1), (28, .bipush (110), 2), (30, .if_icmp .ge (20), 3), (33, .aload_n 0, 1), (34, .bipush (13), 2), (36, .invokevirtual 244, 3), (39, .aload_n 0, 1), (40, .iload_n 1, 1), (41, .bipush (104), 2), (43, .isub, 1), (44, .invokevirtual 244, 3), (47, .goto (16), 3), (50, .aload_n 0, 1), (51, .iconst 2, 1), (52, .invokevirtual 244, 3), (55, .aload_n 0, 1), (56, .iload_n 1, 1), (57, .bipush (120), 2), (59, .isub, 1), (60, .invokevirtual 244, 3), (63, .return_, 1)]
theorem dd_Mo_closeMark : (ld_Mo_closeMark).all (dOK prog_14_method_26_code) = true := by decide +kernel
theorem d_Mo_closeMark_0 : decode prog_14_method_26_code 0 = .ok (.iload_n 1, 1) := dd_at dd_Mo_closeMark 0 rfl
theorem d_Mo_closeMark_1 : decode prog_14_method_26_code 1 = .ok (.bipush (100), 2) := dd_at dd_Mo_closeMark 1 rfl
theorem d_Mo_closeMark_3 : decode prog_14_method_26_code 3 = .ok (.if_icmp .ne (4), 3) := dd_at dd_Mo_closeMark 2 rfl
theorem d_Mo_closeMark_6 : decode prog_14_method_26_code 6 = .ok (.return_, 1) := dd_at dd_Mo_closeMark 3 rfl
theorem d_Mo_closeMark_7 : decode prog_14_method_26_code 7 = .ok (.iload_n 1, 1) := dd_at dd_Mo_closeMark 4 rfl
theorem d_Mo_closeMark_8 : decode prog_14_method_26_code 8 = .ok (.bipush (104), 2) := dd_at dd_Mo_closeMark 5 rfl
theorem d_Mo_closeMark_10 : decode prog_14_method_26_code 10 = .ok (.if_icmp .ge (17), 3) := dd_at dd_Mo_closeMark 6 rfl
theorem d_Mo_closeMark_13 : decode prog_14_method_26_code 13 = .ok (.aload_n 0, 1) := dd_at dd_Mo_closeMark 7 rfl
theorem d_Mo_closeMark_14 : decode prog_14_method_26_code 14 = .ok (.bipush (9), 2) := dd_at dd_Mo_closeMark 8 rfl
theorem d_Mo_closeMark_16 : decode prog_14_method_26_code 16 = .ok (.iload_n 1, 1) := dd_at dd_Mo_closeMark 9 rfl
theorem d_Mo_closeMark_17 : decode prog_14_method_26_code 17 = .ok (.iadd, 1) := dd_at dd_Mo_closeMark 10 rfl
theorem d_Mo_closeMark_18 : decode prog_14_method_26_code 18 = .ok (.bipush (101), 2) := dd_at dd_Mo_closeMark 11 rfl
theorem d_Mo_closeMark_20 : decode prog_14_method_26_code 20 = .ok (.isub, 1) := dd_at dd_Mo_closeMark 12 rfl
theorem d_Mo_closeMark_21 : decode prog_14_method_26_code 21 = .ok (.invokevirtual 244, 3) := dd_at dd_Mo_closeMark 13 rfl
theorem d_Mo_closeMark_24 : decode prog_14_method_26_code 24 = .ok (.goto (39), 3) := dd_at dd_Mo_closeMark 14 rfl
theorem d_Mo_closeMark_27 : decode prog_14_method_26_code 27 = .ok (.iload_n 1, 1) := dd_at dd_Mo_closeMark 15 rfl
theorem d_Mo_closeMark_28 : decode prog_14_method_26_code 28 = .ok (.bipush (110), 2) := dd_at dd_Mo_closeMark 16 rfl
theorem d_Mo_closeMark_30 : decode prog_14_method_26_code 30 = .ok (.if_icmp .ge (20), 3) := dd_at dd_Mo_closeMark 17 rfl
theorem d_Mo_closeMark_33 : decode prog_14_method_26_code 33 = .ok (.aload_n 0, 1) := dd_at dd_Mo_closeMark 18 rfl
theorem d_Mo_closeMark_34 : decode prog_14_method_26_code 34 = .ok (.bipush (13), 2) := dd_at dd_Mo_closeMark 19 rfl
theorem d_Mo_closeMark_36 : decode prog_14_method_26_code 36 = .ok (.invokevirtual 244, 3) := dd_at dd_Mo_closeMark 20 rfl
theorem d_Mo_closeMark_39 : decode prog_14_method_26_code 39 = .ok (.aload_n 0, 1) := dd_at dd_Mo_closeMark 21 rfl
theorem d_Mo_closeMark_40 : decode prog_14_method_26_code 40 = .ok (.iload_n 1, 1) := dd_at dd_Mo_closeMark 22 rfl
theorem d_Mo_closeMark_41 : decode prog_14_method_26_code 41 = .ok (.bipush (104), 2) := dd_at dd_Mo_closeMark 23 rfl
theorem d_Mo_closeMark_43 : decode prog_14_method_26_code 43 = .ok (.isub, 1) := dd_at dd_Mo_closeMark 24 rfl
theorem d_Mo_closeMark_44 : decode prog_14_method_26_code 44 = .ok (.invokevirtual 244, 3) := dd_at dd_Mo_closeMark 25 rfl
theorem d_Mo_closeMark_47 : decode prog_14_method_26_code 47 = .ok (.goto (16), 3) := dd_at dd_Mo_closeMark 26 rfl
theorem d_Mo_closeMark_50 : decode prog_14_method_26_code 50 = .ok (.aload_n 0, 1) := dd_at dd_Mo_closeMark 27 rfl
theorem d_Mo_closeMark_51 : decode prog_14_method_26_code 51 = .ok (.iconst 2, 1) := dd_at dd_Mo_closeMark 28 rfl
theorem d_Mo_closeMark_52 : decode prog_14_method_26_code 52 = .ok (.invokevirtual 244, 3) := dd_at dd_Mo_closeMark 29 rfl
theorem d_Mo_closeMark_55 : decode prog_14_method_26_code 55 = .ok (.aload_n 0, 1) := dd_at dd_Mo_closeMark 30 rfl
theorem d_Mo_closeMark_56 : decode prog_14_method_26_code 56 = .ok (.iload_n 1, 1) := dd_at dd_Mo_closeMark 31 rfl
theorem d_Mo_closeMark_57 : decode prog_14_method_26_code 57 = .ok (.bipush (120), 2) := dd_at dd_Mo_closeMark 32 rfl
theorem d_Mo_closeMark_59 : decode prog_14_method_26_code 59 = .ok (.isub, 1) := dd_at dd_Mo_closeMark 33 rfl
theorem d_Mo_closeMark_60 : decode prog_14_method_26_code 60 = .ok (.invokevirtual 244, 3) := dd_at dd_Mo_closeMark 34 rfl
theorem d_Mo_closeMark_63 : decode prog_14_method_26_code 63 = .ok (.return_, 1) := dd_at dd_Mo_closeMark 35 rfl
def ld_Mo_operator : List (Nat × Instr × Nat) := [(0, .iload_n 1, 1), (1, .bipush (43), 2), (3, .if_icmp .ne (7), 3), (6, .iconst 3, 1), (7, .goto (46), 3), (10, .iload_n 1, 1), (11, .bipush (45), 2), (13, .if_icmp .ne (7), 3), (16, .iconst 4, 1), (17, .goto (36), 3), (20, .iload_n 1, 1), (21, .bipush (42), 2), (23, .if_icmp .ne (7), 3), (26, .iconst 5, 1), (27, .goto (26), 3), (30, .iload_n 1, 1), (31, .bipush (47), 2), (33, .if_icmp .ne (8), 3), (36, .bipush (6), 2), (38, .goto (15), 3), (41, .iload_n 1, 1), (42, .bipush (94), 2), (44, .if_icmp .ne (8), 3), (47, .bipush (7), 2), (49, .goto (4), 3), (52, .iconst 0, 1), (53, .ireturn, 1)]
theorem dd_Mo_operator : (ld_Mo_operator).all (dOK prog_14_method_27_code) = true := by decide +kernel
theorem d_Mo_operator_0 : decode prog_14_method_27_code 0 = .ok (.iload_n 1, 1) := dd_at dd_Mo_operator 0 rfl
theorem d_Mo_operator_1 : decode prog_14_method_27_code 1 = .ok (.bipush (43), 2) := dd_at dd_Mo_operator 1 rfl
theorem d_Mo_operator_3 : decode prog_14_method_27_code 3 = .ok (.if_icmp .ne (7), 3) := dd_at dd_Mo_operator 2 rfl
theorem d_Mo_operator_6 : decode prog_14_method_27_code 6 = .ok (.iconst 3, 1) := dd_at dd_Mo_operator 3 rfl
theorem d_Mo_operator_7 : decode prog_14_method_27_code 7 = .ok (.goto (46), 3) := dd_at dd_Mo_operator 4 rfl
theorem d_Mo_operator_10 : decode prog_14_method_27_code 10 = .ok (.iload_n 1, 1) := dd_at dd_Mo_operator 5 rfl
theorem d_Mo_operator_11 : decode prog_14_method_27_code 11 = .ok (.bipush (45), 2) := dd_at dd_Mo_operator 6 rfl
theorem d_Mo_operator_13 : decode prog_14_method_27_code 13 = .ok (.if_icmp .ne (7), 3) := dd_at dd_Mo_operator 7 rfl
theorem d_Mo_operator_16 : decode prog_14_method_27_code 16 = .ok (.iconst 4, 1) := dd_at dd_Mo_operator 8 rfl
theorem d_Mo_operator_17 : decode prog_14_method_27_code 17 = .ok (.goto (36), 3) := dd_at dd_Mo_operator 9 rfl
theorem d_Mo_operator_20 : decode prog_14_method_27_code 20 = .ok (.iload_n 1, 1) := dd_at dd_Mo_operator 10 rfl
theorem d_Mo_operator_21 : decode prog_14_method_27_code 21 = .ok (.bipush (42), 2) := dd_at dd_Mo_operator 11 rfl
theorem d_Mo_operator_23 : decode prog_14_method_27_code 23 = .ok (.if_icmp .ne (7), 3) := dd_at dd_Mo_operator 12 rfl
theorem d_Mo_operator_26 : decode prog_14_method_27_code 26 = .ok (.iconst 5, 1) := dd_at dd_Mo_operator 13 rfl
theorem d_Mo_operator_27 : decode prog_14_method_27_code 27 = .ok (.goto (26), 3) := dd_at dd_Mo_operator 14 rfl
theorem d_Mo_operator_30 : decode prog_14_method_27_code 30 = .ok (.iload_n 1, 1) := dd_at dd_Mo_operator 15 rfl
theorem d_Mo_operator_31 : decode prog_14_method_27_code 31 = .ok (.bipush (47), 2) := dd_at dd_Mo_operator 16 rfl
theorem d_Mo_operator_33 : decode prog_14_method_27_code 33 = .ok (.if_icmp .ne (8), 3) := dd_at dd_Mo_operator 17 rfl
theorem d_Mo_operator_36 : decode prog_14_method_27_code 36 = .ok (.bipush (6), 2) := dd_at dd_Mo_operator 18 rfl
theorem d_Mo_operator_38 : decode prog_14_method_27_code 38 = .ok (.goto (15), 3) := dd_at dd_Mo_operator 19 rfl
theorem d_Mo_operator_41 : decode prog_14_method_27_code 41 = .ok (.iload_n 1, 1) := dd_at dd_Mo_operator 20 rfl
theorem d_Mo_operator_42 : decode prog_14_method_27_code 42 = .ok (.bipush (94), 2) := dd_at dd_Mo_operator 21 rfl
theorem d_Mo_operator_44 : decode prog_14_method_27_code 44 = .ok (.if_icmp .ne (8), 3) := dd_at dd_Mo_operator 22 rfl
theorem d_Mo_operator_47 : decode prog_14_method_27_code 47 = .ok (.bipush (7), 2) := dd_at dd_Mo_operator 23 rfl
theorem d_Mo_operator_49 : decode prog_14_method_27_code 49 = .ok (.goto (4), 3) := dd_at dd_Mo_operator 24 rfl
theorem d_Mo_operator_52 : decode prog_14_method_27_code 52 = .ok (.iconst 0, 1) := dd_at dd_Mo_operator 25 rfl
theorem d_Mo_operator_53 : decode prog_14_method_27_code 53 = .ok (.ireturn, 1) := dd_at dd_Mo_operator 26 rfl
def ld_Mo_expression : List (Nat × Instr × Nat) := [(0, .aload_n 0, 1), (1, .getfield 28, 3), (4, .istore_n 2, 1), (5, .iconst 0, 1), (6, .istore_n 3, 1), (7, .iconst 0, 1), (8, .istore 4, 2), (10, .iconst 1, 1), (11, .istore 5, 2), (13, .iconst 1, 1), (14, .istore 6, 2), (16, .aload_n 0, 1), (17, .getfield 31, 3), (20, .ifCond .ne (298), 3), (23, .aload_n 0, 1), (24, .invokevirtual 156, 3), (27, .istore 7, 2), (29, .iload 5, 2), (31, .ifCond .eq (97), 3), (34, .iload 6, 2), (36, .ifCond .eq (37), 3), (39, .iload 7, 2), (41, .bipush (45), 2), (43, .if_icmp .ne (30), 3), (46, .aload_n 0, 1), (47, .dup, 1), (48, .getfield 22, 3), (51, .iconst 1, 1), (52, .iadd, 1), (53, .putfield 22, 3), (56, .aload_n 0, 1), (57, .getfield 58, 3), (60, .iload_n 3, 1), (61, .bipush (8), 2), (63, .iastore, 1), (64, .iinc 3 (1), 3), (67, .iconst 0, 1), (68, .istore 6, 2), (70, .goto (-54), 3), (73, .iconst 0, 1), (74, .istore 6, 2), (76, .aload_n 0, 1), (77, .iload_n 1, 1), (78, .iload 4, 2), (80, .ifCond .ne (7), 3), (83, .iconst 1, 1), (84, .goto (4), 3), (87, .iconst 0, 1), (88, .invokevirtual 263, 3), (91, .istore 8, 2), (93, .iload 8, 2), (95, .ifCond .ne (9), 3), (98, .iconst 0, 1), (99, .istore 5, 2), (101, .goto (-85), 3), (104, .aload_n 0, 1), (105, .invokevirtual 267, 3), (108, .aload_n 0, 1), (109, .getfield 58, 3), (112, .iload_n 3, 1), (113, .iload 8, 2), (115, .iastore, 1), (116, .iinc 3 (1), 3), (119, .iinc 4 (1), 3), (122, .iconst 1, 1), (123, .istore 6, 2), (125, .goto (-109), 3), (128, .aload_n 0, 1), (129, .iload 7, 2), (131, .invokevirtual 270, 3), (134, .istore 8, 2), (136, .iload 8, 2), (138, .ifCond .le (26), 3), (141, .aload_n 0, 1), (142, .iload_n 3, 1), (143, .aload_n 0, 1), (144, .iload 8, 2), (146, .invokevirtual 251, 3), (149, .invokevirtual 273, 3), (152, .istore_n 3, 1), (153, .aload_n 0, 1), (154, .getfield 58, 3), (157, .iload_n 3, 1), (158, .iload 8, 2), (160, .iastore, 1), (161, .goto (138), 3), (164, .iload 4, 2), (166, .ifCond .ne (6), 3), (169, .goto (149), 3), (172, .aload_n 0, 1), (173, .iload_n 3, 1), (174, .iconst 1, 1), (175, .invokevirtual 273, 3), (178, .istore_n 3, 1), (179, .aload_n 0, 1), (180, .getfield 58, 3), (183, .iload_n 3, 1), (184, .iconst 1, 1), (185, .isub, 1), (186, .iaload, 1), (187, .istore 9, 2), (189, .iload 7, 2), (191, .bipush (44), 2), (193, .if_icmp .ne (39), 3), (196, .iload 9, 2), (198, .bipush (109), 2), (200, .if_icmp .le (32), 3), (203, .iload 9, 2), (205, .bipush (120), 2), (207, .if_icmp .ge (25), 3), (210, .aload_n 0, 1), (211, .getfield 58, 3), (214, .iload_n 3, 1), (215, .iconst 1, 1), (216, .isub, 1), (217, .iload 9, 2), (219, .bipush (10), 2), (221, .iadd, 1), (222, .iastore, 1), (223, .iconst 1, 1), (224, .istore 6, 2), (226, .iconst 1, 1), (227, .istore 5, 2), (229, .goto (57), 3), (232, .iload 7, 2), (234, .bipush (41), 2), (236, .if_icmp .ne (42), 3), (239, .iload 9, 2), (241, .bipush (110), 2), (243, .if_icmp .lt (10), 3), (246, .iload 9, 2), (248, .bipush (119), 2), (250, .if_icmp .le (28), 3), (253, .aload_n 0, 1), (254, .iload 9, 2), (256, .invokevirtual 276, 3), (259, .iinc 3 (-1), 3), (262, .iinc 4 (-1), 3), (265, .aload_n 0, 1), (266, .dup, 1), (267, .getfield 25, 3), (270, .iconst 1, 1), (271, .isub, 1), (272, .putfield 25, 3), (275, .goto (11), 3), (278, .aload_n 0, 1), (279, .iconst 1, 1), (280, .putfield 31, 3), (283, .goto (35), 3), (286, .aload_n 0, 1), (287, .dup, 1), (288, .getfield 22, 3), (291, .iconst 1, 1), (292, .iadd, 1), (293, .putfield 22, 3), (296, .goto (-280), 3), (299, .aload_n 0, 1), (300, .dup, 1), (301, .getfield 22, 3), (304, .iconst 1, 1), (305, .iadd, 1), (306, .putfield 22, 3), (309, .iinc 3 (1), 3), (312, .iconst 1, 1), (313, .istore 5, 2), (315, .goto (-299), 3), (318, .aload_n 0, 1), (319, .iload_n 3, 1), (320, .iconst 1, 1), (321, .invokevirtual 273, 3), (324, .istore_n 3, 1), (325, .aload_n 0, 1), (326, .bipush (14), 2), (328, .invokevirtual 244, 3), (331, .iload_n 2, 1), (332, .ireturn, 1)]
theorem dd_Mo_expression : (ld_Mo_expression).all (dOK prog_14_method_28_code) = true := by decide +kernel
theorem d_Mo_expression_0 : decode prog_14_method_28_code 0 = .ok (.aload_n 0, 1) := dd_at dd_Mo_expression 0 rfl
theorem d_Mo_expression_1 : decode prog_14_method_28_code 1 = .ok (.getfield 28, 3) := dd_at dd_Mo_expression 1 rfl
theorem d_Mo_expression_4 : decode prog_14_method_28_code 4 = .ok (.istore_n 2, 1) := dd_at dd_Mo_expression 2 rfl
theorem d_Mo_expression_5 : decode prog_14_method_28_code 5 = .ok (.iconst 0, 1) := dd_at dd_Mo_expression 3 rfl
theorem d_Mo_expression_6 : decode prog_14_method_28_code 6 = .ok (.istore_n 3, 1) := dd_at dd_Mo_expression 4 rfl
theorem d_Mo_expression_7 : decode prog_14_method_28_code 7 = .ok (.iconst 0, 1) := dd_at dd_Mo_expression 5 rfl
theorem d_Mo_expression_8 : decode prog_14_method_28_code 8 = .ok (.istore 4, 2) := dd_at dd_Mo_expression 6 rfl
theorem d_Mo_expression_10 : decode prog_14_method_28_code 10 = .ok (.iconst 1, 1) := dd_at dd_Mo_expression 7 rfl
theorem d_Mo_expression_11 : decode prog_14_method_28_code 11 = .ok (.istore 5, 2) := dd_at dd_Mo_expression 8 rfl
theorem d_Mo_expression_13 : decode prog_14_method_28_code 13 = .ok (.iconst 1, 1) := dd_at dd_Mo_expression 9 rfl
theorem d_Mo_expression_14 : decode prog_14_method_28_code 14 = .ok (.istore 6, 2) := dd_at dd_Mo_expression 10 rfl
theorem d_Mo_expression_16 : decode prog_14_method_28_code 16 = .ok (.aload_n 0, 1) := dd_at dd_Mo_expression 11 rfl
theorem d_Mo_expression_17 : decode prog_14_method_28_code 17 = .ok (.getfield 31, 3) := dd_at dd_Mo_expression 12 rfl
theorem d_Mo_expression_20 : decode prog_14_method_28_code 20 = .ok (.ifCond .ne (298), 3) := dd_at dd_Mo_expression 13 rfl
theorem d_Mo_expression_23 : decode prog_14_method_28_code 23 = .ok (.aload_n 0, 1) := dd_at dd_Mo_expression 14 rfl
theorem d_Mo_expression_24 : decode prog_14_method_28_code 24 = .ok (.invokevirtual 156, 3) := dd_at dd_Mo_expression 15 rfl
theorem d_Mo_expression_27 : decode prog_14_method_28_code 27 = .ok (.istore 7, 2) := dd_at dd_Mo_expression 16 rfl
theorem d_Mo_expression_29 : decode prog_14_method_28_code 29 = .ok (.iload 5, 2) := dd_at dd_Mo_expression 17 rfl
theorem d_Mo_expression_31 : decode prog_14_method_28_code 31 = .ok (.ifCond .eq (97), 3) := dd_at dd_Mo_expression 18 rfl
theorem d_Mo_expression_34 : decode prog_14_method_28_code 34 = .ok (.iload 6, 2) := dd_at dd_Mo_expression 19 rfl
theorem d_Mo_expression_36 : decode prog_14_method_28_code 36 = .ok (.ifCond .eq (37), 3) := dd_at dd_Mo_expression 20 rfl
theorem d_Mo_expression_39 : decode prog_14_method_28_code 39 = .ok (.iload 7, 2) := dd_at dd_Mo_expression 21 rfl
theorem d_Mo_expression_41 : decode prog_14_method_28_code 41 = .ok (.bipush (45), 2) := dd_at dd_Mo_expression 22 rfl
theorem d_Mo_expression_43 : decode prog_14_method_28_code 43 = .ok (.if_icmp .ne (30), 3) := dd_at dd_Mo_expression 23 rfl
theorem d_Mo_expression_46 : decode prog_14_method_28_code 46 = .ok (.aload_n 0, 1) := dd_at dd_Mo_expression 24 rfl
theorem d_Mo_expression_47 : decode prog_14_method_28_code 47 = .ok (.dup, 1) := dd_at dd_Mo_expression 25 rfl
theorem d_Mo_expression_48 : decode prog_14_method_28_code 48 = .ok (.getfield 22, 3) := dd_at dd_Mo_expression 26 rfl
theorem d_Mo_expression_51 : decode prog_14_method_28_code 51 = .ok (.iconst 1, 1) := dd_at dd_Mo_expression 27 rfl
theorem d_Mo_expression_52 : decode prog_14_method_28_code 52 = .ok (.iadd, 1) := dd_at dd_Mo_expression 28 rfl
theorem d_Mo_expression_53 : decode prog_14_method_28_code 53 = .ok (.putfield 22, 3) := dd_at dd_Mo_expression 29 rfl
theorem d_Mo_expression_56 : decode prog_14_method_28_code 56 = .ok (.aload_n 0, 1) := dd_at dd_Mo_expression 30 rfl
theorem d_Mo_expression_57 : decode prog_14_method_28_code 57 = .ok (.getfield 58, 3) := dd_at dd_Mo_expression 31 rfl
theorem d_Mo_expression_60 : decode prog_14_method_28_code 60 = .ok (.iload_n 3, 1) := dd_at dd_Mo_expression 32 rfl
theorem d_Mo_expression_61 : decode prog_14_method_28_code 61 = .ok (.bipush (8), 2) := dd_at dd_Mo_expression 33 rfl
theorem d_Mo_expression_63 : decode prog_14_method_28_code 63 = .ok (.iastore, 1) := dd_at dd_Mo_expression 34 rfl
theorem d_Mo_expression_64 : decode prog_14_method_28_code 64 = .ok (.iinc 3 (1), 3) := dd_at dd_Mo_expression 35 rfl
theorem d_Mo_expression_67 : decode prog_14_method_28_code 67 = .ok (.iconst 0, 1) := dd_at dd_Mo_expression 36 rfl
theorem d_Mo_expression_68 : decode prog_14_method_28_code 68 = .ok (.istore 6, 2) := dd_at dd_Mo_expression 37 rfl
theorem d_Mo_expression_70 : decode prog_14_method_28_code 70 = .ok (.goto (-54), 3) := dd_at dd_Mo_expression 38 rfl
theorem d_Mo_expression_73 : decode prog_14_method_28_code 73 = .ok (.iconst 0, 1) := dd_at dd_Mo_expression 39 rfl
theorem d_Mo_expression_74 : decode prog_14_method_28_code 74 = .ok (.istore 6, 2) := dd_at dd_Mo_expression 40 rfl
theorem d_Mo_expression_76 : decode prog_14_method_28_code 76 = .ok (.aload_n 0, 1) := dd_at dd_Mo_expression 41 rfl
theorem d_Mo_expression_77 : decode prog_14_method_28_code 77 = .ok (.iload_n 1, 1) := dd_at dd_Mo_expression 42 rfl
theorem d_Mo_expression_78 : decode prog_14_method_28_code 78 = .ok (.iload 4, 2) := dd_at dd_Mo_expression 43 rfl
theorem d_Mo_expression_80 : decode prog_14_method_28_code 80 = .ok (.ifCond .ne (7), 3) := dd_at dd_Mo_expression 44 rfl
theorem d_Mo_expression_83 : decode prog_14_method_28_code 83 = .ok (.iconst 1, 1) := dd_at dd_Mo_expression 45 rfl
theorem d_Mo_expression_84 : decode prog_14_method_28_code 84 = .ok (.goto (4), 3) := dd_at dd_Mo_expression 46 rfl
theorem d_Mo_expression_87 : decode prog_14_method_28_code 87 = .ok (.iconst 0, 1) := dd_at dd_Mo_expression 47 rfl
theorem d_Mo_expression_88 : decode prog_14_method_28_code 88 = .ok (.invokevirtual 263, 3) := dd_at dd_Mo_expression 48 rfl
theorem d_Mo_expression_91 : decode prog_14_method_28_code 91 = .ok (.istore 8, 2) := dd_at dd_Mo_expression 49 rfl
theorem d_Mo_expression_93 : decode prog_14_method_28_code 93 = .ok (.iload 8, 2) := dd_at dd_Mo_expression 50 rfl
theorem d_Mo_expression_95 : decode prog_14_method_28_code 95 = .ok (.ifCond .ne (9), 3) := dd_at dd_Mo_expression 51 rfl
theorem d_Mo_expression_98 : decode prog_14_method_28_code 98 = .ok (.iconst 0, 1) := dd_at dd_Mo_expression 52 rfl
theorem d_Mo_expression_99 : decode prog_14_method_28_code 99 = .ok (.istore 5, 2) := dd_at dd_Mo_expression 53 rfl
theorem d_Mo_expression_101 : decode prog_14_method_28_code 101 = .ok (.goto (-85), 3) := dd_at dd_Mo_expression 54 rfl
theorem d_Mo_expression_104 : decode prog_14_method_28_code 104 = .ok (.aload_n 0, 1) := dd_at dd_Mo_expression 55 rfl
theorem d_Mo_expression_105 : decode prog_14_method_28_code 105 = .ok (.invokevirtual 267, 3) := dd_at dd_Mo_expression 56 rfl
theorem d_Mo_expression_108 : decode prog_14_method_28_code 108 = .ok (.aload_n 0, 1) := dd_at dd_Mo_expression 57 rfl
theorem d_Mo_expression_109 : decode prog_14_method_28_code 109 = .ok (.getfield 58, 3) := dd_at dd_Mo_expression 58 rfl
theorem d_Mo_expression_112 : decode prog_14_method_28_code 112 = .ok (.iload_n 3, 1) := dd_at dd_Mo_expression 59 rfl
theorem d_Mo_expression_113 : decode prog_14_method_28_code 113 = .ok (.iload 8, 2) := dd_at dd_Mo_expression 60 rfl
theorem d_Mo_expression_115 : decode prog_14_method_28_code 115 = .ok (.iastore, 1) := dd_at dd_Mo_expression 61 rfl
theorem d_Mo_expression_116 : decode prog_14_method_28_code 116 = .ok (.iinc 3 (1), 3) := dd_at dd_Mo_expression 62 rfl
theorem d_Mo_expression_119 : decode prog_14_method_28_code 119 = .ok (.iinc 4 (1), 3) := dd_at dd_Mo_expression 63 rfl
theorem d_Mo_expression_122 : decode prog_14_method_28_code 122 = .ok (.iconst 1, 1) := dd_at dd_Mo_expression 64 rfl
theorem d_Mo_expression_123 : decode prog_14_method_28_code 123 = .ok (.istore 6, 2) := dd_at dd_Mo_expression 65 rfl
theorem d_Mo_expression_125 : decode prog_14_method_28_code 125 = .ok (.goto (-109), 3) := dd_at dd_Mo_expression 66 rfl
theorem d_Mo_expression_128 : decode prog_14_method_28_code 128 = .ok (.aload_n 0, 1) := dd_at dd_Mo_expression 67 rfl
theorem d_Mo_expression_129 : decode prog_14_method_28_code 129 = .ok (.iload 7, 2) := dd_at dd_Mo_expression 68 rfl
theorem d_Mo_expression_131 : decode prog_14_method_28_code 131 = .ok (.invokevirtual 270, 3) := dd_at dd_Mo_expression 69 rfl
theorem d_Mo_expression_134 : decode prog_14_method_28_code 134 = .ok (.istore 8, 2) := dd_at dd_Mo_expression 70 rfl
theorem d_Mo_expression_136 : decode prog_14_method_28_code 136 = .ok (.iload 8, 2) := dd_at dd_Mo_expression 71 rfl
theorem d_Mo_expression_138 : decode prog_14_method_28_code 138 = .ok (.ifCond .le (26), 3) := dd_at dd_Mo_expression 72 rfl
theorem d_Mo_expression_141 : decode prog_14_method_28_code 141 = .ok (.aload_n 0, 1) := dd_at dd_Mo_expression 73 rfl
theorem d_Mo_expression_142 : decode prog_14_method_28_code 142 = .ok (.iload_n 3, 1) := dd_at dd_Mo_expression 74 rfl
theorem d_Mo_expression_143 : decode prog_14_method_28_code 143 = .ok (.aload_n 0, 1) := dd_at dd_Mo_expression 75 rfl
theorem d_Mo_expression_144 : decode prog_14_method_28_code 144 = .ok (.iload 8, 2) := dd_at dd_Mo_expression 76 rfl
theorem d_Mo_expression_146 : decode prog_14_method_28_code 146 = .ok (.invokevirtual 251, 3) := dd_at dd_Mo_expression 77 rfl
theorem d_Mo_expression_149 : decode prog_14_method_28_code 149 = .ok (.invokevirtual 273, 3) := dd_at dd_Mo_expression 78 rfl
theorem d_Mo_expression_152 : decode prog_14_method_28_code 152 = .ok (.istore_n 3, 1) := dd_at dd_Mo_expression 79 rfl
theorem d_Mo_expression_153 : decode prog_14_method_28_code 153 = .ok (.aload_n 0, 1) := dd_at dd_Mo_expression 80 rfl
theorem d_Mo_expression_154 : decode prog_14_method_28_code 154 = .ok (.getfield 58, 3) := dd_at dd_Mo_expression 81 rfl
theorem d_Mo_expression_157 : decode prog_14_method_28_code 157 = .ok (.iload_n 3, 1) := dd_at dd_Mo_expression 82 rfl
theorem d_Mo_expression_158 : decode prog_14_method_28_code 158 = .ok (.iload 8, 2) := dd_at dd_Mo_expression 83 rfl
theorem d_Mo_expression_160 : decode prog_14_method_28_code 160 = .ok (.iastore, 1) := dd_at dd_Mo_expression 84 rfl
theorem d_Mo_expression_161 : decode prog_14_method_28_code 161 = .ok (.goto (138), 3) := dd_at dd_Mo_expression 85 rfl
theorem d_Mo_expression_164 : decode prog_14_method_28_code 164 = .ok (.iload 4, 2) := dd_at dd_Mo_expression 86 rfl
theorem d_Mo_expression_166 : decode prog_14_method_28_code 166 = .ok (.ifCond .ne (6), 3) := dd_at dd_Mo_expression 87 rfl
theorem d_Mo_expression_169 : decode prog_14_method_28_code 169 = .ok (.goto (149), 3) := dd_at dd_Mo_expression 88 rfl
theorem d_Mo_expression_172 : decode prog_14_method_28_code 172 = .ok (.aload_n 0, 1) := dd_at dd_Mo_expression 89 rfl
theorem d_Mo_expression_173 : decode prog_14_method_28_code 173 = .ok (.iload_n 3, 1) := dd_at dd_Mo_expression 90 rfl
theorem d_Mo_expression_174 : decode prog_14_method_28_code 174 = .ok (.iconst 1, 1) := dd_at dd_Mo_expression 91 rfl
theorem d_Mo_expression_175 : decode prog_14_method_28_code 175 = .ok (.invokevirtual 273, 3) := dd_at dd_Mo_expression 92 rfl
theorem d_Mo_expression_178 : decode prog_14_method_28_code 178 = .ok (.istore_n 3, 1) := dd_at dd_Mo_expression 93 rfl
theorem d_Mo_expression_179 : decode prog_14_method_28_code 179 = .ok (.aload_n 0, 1) := dd_at dd_Mo_expression 94 rfl
theorem d_Mo_expression_180 : decode prog_14_method_28_code 180 = .ok (.getfield 58, 3) := dd_at dd_Mo_expression 95 rfl
theorem d_Mo_expression_183 : decode prog_14_method_28_code 183 = .ok (.iload_n 3, 1) := dd_at dd_Mo_expression 96 rfl
theorem d_Mo_expression_184 : decode prog_14_method_28_code 184 = .ok (.iconst 1, 1) := dd_at dd_Mo_expression 97 rfl
theorem d_Mo_expression_185 : decode prog_14_method_28_code 185 = .ok (.isub, 1) := dd_at dd_Mo_expression 98 rfl
theorem d_Mo_expression_186 : decode prog_14_method_28_code 186 = .ok (.iaload, 1) := dd_at dd_Mo_expression 99 rfl
theorem d_Mo_expression_187 : decode prog_14_method_28_code 187 = .ok (.istore 9, 2) := dd_at dd_Mo_expression 100 rfl
theorem d_Mo_expression_189 : decode prog_14_method_28_code 189 = .ok (.iload 7, 2) := dd_at dd_Mo_expression 101 rfl
theorem d_Mo_expression_191 : decode prog_14_method_28_code 191 = .ok (.bipush (44), 2) := dd_at dd_Mo_expression 102 rfl
theorem d_Mo_expression_193 : decode prog_14_method_28_code 193 = .ok (.if_icmp .ne (39), 3) := dd_at dd_Mo_expression 103 rfl
theorem d_Mo_expression_196 : decode prog_14_method_28_code 196 = .ok (.iload 9, 2) := dd_at dd_Mo_expression 104 rfl
theorem d_Mo_expression_198 : decode prog_14_method_28_code 198 = .ok (.bipush (109), 2) := dd_at dd_Mo_expression 105 rfl
theorem d_Mo_expression_200 : decode prog_14_method_28_code 200 = .ok (.if_icmp .le (32), 3) := dd_at dd_Mo_expression 106 rfl
theorem d_Mo_expression_203 : decode prog_14_method_28_code 203 = .ok (.iload 9, 2) := dd_at dd_Mo_expression 107 rfl
theorem d_Mo_expression_205 : decode prog_14_method_28_code 205 = .ok (.bipush (120), 2) := dd_at dd_Mo_expression 108 rfl
theorem d_Mo_expression_207 : decode prog_14_method_28_code 207 = .ok (.if_icmp .ge (25), 3) := dd_at dd_Mo_expression 109 rfl
theorem d_Mo_expression_210 : decode prog_14_method_28_code 210 = .ok (.aload_n 0, 1) := dd_at dd_Mo_expression 110 rfl
theorem d_Mo_expression_211 : decode prog_14_method_28_code 211 = .ok (.getfield 58, 3) := dd_at dd_Mo_expression 111 rfl
theorem d_Mo_expression_214 : decode prog_14_method_28_code 214 = .ok (.iload_n 3, 1) := dd_at dd_Mo_expression 112 rfl
theorem d_Mo_expression_215 : decode prog_14_method_28_code 215 = .ok (.iconst 1, 1) := dd_at dd_Mo_expression 113 rfl
theorem d_Mo_expression_216 : decode prog_14_method_28_code 216 = .ok (.isub, 1) := dd_at dd_Mo_expression 114 rfl
theorem d_Mo_expression_217 : decode prog_14_method_28_code 217 = .ok (.iload 9, 2) := dd_at dd_Mo_expression 115 rfl
theorem d_Mo_expression_219 : decode prog_14_method_28_code 219 = .ok (.bipush (10), 2) := dd_at dd_Mo_expression 116 rfl
theorem d_Mo_expression_221 : decode prog_14_method_28_code 221 = .ok (.iadd, 1) := dd_at dd_Mo_expression 117 rfl
theorem d_Mo_expression_222 : decode prog_14_method_28_code 222 = .ok (.iastore, 1) := dd_at dd_Mo_expression 118 rfl
theorem d_Mo_expression_223 : decode prog_14_method_28_code 223 = .ok (.iconst 1, 1) := dd_at dd_Mo_expression 119 rfl
theorem d_Mo_expression_224 : decode prog_14_method_28_code 224 = .ok (.istore 6, 2) := dd_at dd_Mo_expression 120 rfl
theorem d_Mo_expression_226 : decode prog_14_method_28_code 226 = .ok (.iconst 1, 1) := dd_at dd_Mo_expression 121 rfl
theorem d_Mo_expression_227 : decode prog_14_method_28_code 227 = .ok (.istore 5, 2) := dd_at dd_Mo_expression 122 rfl
theorem d_Mo_expression_229 : decode prog_14_method_28_code 229 = .ok (.goto (57), 3) := dd_at dd_Mo_expression 123 rfl
theorem d_Mo_expression_232 : decode prog_14_method_28_code 232 = .ok (.iload 7, 2) := dd_at dd_Mo_expression 124 rfl
theorem d_Mo_expression_234 : decode prog_14_method_28_code 234 = .ok (.bipush (41), 2) := dd_at dd_Mo_expression 125 rfl
theorem d_Mo_expression_236 : decode prog_14_method_28_code 236 = .ok (.if_icmp .ne (42), 3) := dd_at dd_Mo_expression 126 rfl
theorem d_Mo_expression_239 : decode prog_14_method_28_code 239 = .ok (.iload 9, 2) := dd_at dd_Mo_expression 127 rfl
theorem d_Mo_expression_241 : decode prog_14_method_28_code 241 = .ok (.bipush (110), 2) := dd_at dd_Mo_expression 128 rfl
theorem d_Mo_expression_243 : decode prog_14_method_28_code 243 = .ok (.if_icmp .lt (10), 3) := dd_at dd_Mo_expression 129 rfl
theorem d_Mo_expression_246 : decode prog_14_method_28_code 246 = .ok (.iload 9, 2) := dd_at dd_Mo_expression 130 rfl
theorem d_Mo_expression_248 : decode prog_14_method_28_code 248 = .ok (.bipush (119), 2) := dd_at dd_Mo_expression 131 rfl
theorem d_Mo_expression_250 : decode prog_14_method_28_code 250 = .ok (.if_icmp .le (28), 3) := dd_at dd_Mo_expression 132 rfl
theorem d_Mo_expression_253 : decode prog_14_method_28_code 253 = .ok (.aload_n 0, 1) := dd_at dd_Mo_expression 133 rfl
theorem d_Mo_expression_254 : decode prog_14_method_28_code 254 = .ok (.iload 9, 2) := dd_at dd_Mo_expression 134 rfl
theorem d_Mo_expression_256 : decode prog_14_method_28_code 256 = .ok (.invokevirtual 276, 3) := dd_at dd_Mo_expression 135 rfl
theorem d_Mo_expression_259 : decode prog_14_method_28_code 259 = .ok (.iinc 3 (-1), 3) := dd_at dd_Mo_expression 136 rfl
theorem d_Mo_expression_262 : decode prog_14_method_28_code 262 = .ok (.iinc 4 (-1), 3) := dd_at dd_Mo_expression 137 rfl
theorem d_Mo_expression_265 : decode prog_14_method_28_code 265 = .ok (.aload_n 0, 1) := dd_at dd_Mo_expression 138 rfl
theorem d_Mo_expression_266 : decode prog_14_method_28_code 266 = .ok (.dup, 1) := dd_at dd_Mo_expression 139 rfl
theorem d_Mo_expression_267 : decode prog_14_method_28_code 267 = .ok (.getfield 25, 3) := dd_at dd_Mo_expression 140 rfl
theorem d_Mo_expression_270 : decode prog_14_method_28_code 270 = .ok (.iconst 1, 1) := dd_at dd_Mo_expression 141 rfl
theorem d_Mo_expression_271 : decode prog_14_method_28_code 271 = .ok (.isub, 1) := dd_at dd_Mo_expression 142 rfl
theorem d_Mo_expression_272 : decode prog_14_method_28_code 272 = .ok (.putfield 25, 3) := dd_at dd_Mo_expression 143 rfl
theorem d_Mo_expression_275 : decode prog_14_method_28_code 275 = .ok (.goto (11), 3) := dd_at dd_Mo_expression 144 rfl
theorem d_Mo_expression_278 : decode prog_14_method_28_code 278 = .ok (.aload_n 0, 1) := dd_at dd_Mo_expression 145 rfl
theorem d_Mo_expression_279 : decode prog_14_method_28_code 279 = .ok (.iconst 1, 1) := dd_at dd_Mo_expression 146 rfl
theorem d_Mo_expression_280 : decode prog_14_method_28_code 280 = .ok (.putfield 31, 3) := dd_at dd_Mo_expression 147 rfl
theorem d_Mo_expression_283 : decode prog_14_method_28_code 283 = .ok (.goto (35), 3) := dd_at dd_Mo_expression 148 rfl
theorem d_Mo_expression_286 : decode prog_14_method_28_code 286 = .ok (.aload_n 0, 1) := dd_at dd_Mo_expression 149 rfl
theorem d_Mo_expression_287 : decode prog_14_method_28_code 287 = .ok (.dup, 1) := dd_at dd_Mo_expression 150 rfl
theorem d_Mo_expression_288 : decode prog_14_method_28_code 288 = .ok (.getfield 22, 3) := dd_at dd_Mo_expression 151 rfl
theorem d_Mo_expression_291 : decode prog_14_method_28_code 291 = .ok (.iconst 1, 1) := dd_at dd_Mo_expression 152 rfl
theorem d_Mo_expression_292 : decode prog_14_method_28_code 292 = .ok (.iadd, 1) := dd_at dd_Mo_expression 153 rfl
theorem d_Mo_expression_293 : decode prog_14_method_28_code 293 = .ok (.putfield 22, 3) := dd_at dd_Mo_expression 154 rfl
theorem d_Mo_expression_296 : decode prog_14_method_28_code 296 = .ok (.goto (-280), 3) := dd_at dd_Mo_expression 155 rfl
theorem d_Mo_expression_299 : decode prog_14_method_28_code 299 = .ok (.aload_n 0, 1) := dd_at dd_Mo_expression 156 rfl
theorem d_Mo_expression_300 : decode prog_14_method_28_code 300 = .ok (.dup, 1) := dd_at dd_Mo_expression 157 rfl
theorem d_Mo_expression_301 : decode prog_14_method_28_code 301 = .ok (.getfield 22, 3) := dd_at dd_Mo_expression 158 rfl
theorem d_Mo_expression_304 : decode prog_14_method_28_code 304 = .ok (.iconst 1, 1) := dd_at dd_Mo_expression 159 rfl
theorem d_Mo_expression_305 : decode prog_14_method_28_code 305 = .ok (.iadd, 1) := dd_at dd_Mo_expression 160 rfl
theorem d_Mo_expression_306 : decode prog_14_method_28_code 306 = .ok (.putfield 22, 3) := dd_at dd_Mo_expression 161 rfl
theorem d_Mo_expression_309 : decode prog_14_method_28_code 309 = .ok (.iinc 3 (1), 3) := dd_at dd_Mo_expression 162 rfl
theorem d_Mo_expression_312 : decode prog_14_method_28_code 312 = .ok (.iconst 1, 1) := dd_at dd_Mo_expression 163 rfl
theorem d_Mo_expression_313 : decode prog_14_method_28_code 313 = .ok (.istore 5, 2) := dd_at dd_Mo_expression 164 rfl
theorem d_Mo_expression_315 : decode prog_14_method_28_code 315 = .ok (.goto (-299), 3) := dd_at dd_Mo_expression 165 rfl
theorem d_Mo_expression_318 : decode prog_14_method_28_code 318 = .ok (.aload_n 0, 1) := dd_at dd_Mo_expression 166 rfl
theorem d_Mo_expression_319 : decode prog_14_method_28_code 319 = .ok (.iload_n 3, 1) := dd_at dd_Mo_expression 167 rfl
theorem d_Mo_expression_320 : decode prog_14_method_28_code 320 = .ok (.iconst 1, 1) := dd_at dd_Mo_expression 168 rfl
theorem d_Mo_expression_321 : decode prog_14_method_28_code 321 = .ok (.invokevirtual 273, 3) := dd_at dd_Mo_expression 169 rfl
theorem d_Mo_expression_324 : decode prog_14_method_28_code 324 = .ok (.istore_n 3, 1) := dd_at dd_Mo_expression 170 rfl
theorem d_Mo_expression_325 : decode prog_14_method_28_code 325 = .ok (.aload_n 0, 1) := dd_at dd_Mo_expression 171 rfl
theorem d_Mo_expression_326 : decode prog_14_method_28_code 326 = .ok (.bipush (14), 2) := dd_at dd_Mo_expression 172 rfl
theorem d_Mo_expression_328 : decode prog_14_method_28_code 328 = .ok (.invokevirtual 244, 3) := dd_at dd_Mo_expression 173 rfl
theorem d_Mo_expression_331 : decode prog_14_method_28_code 331 = .ok (.iload_n 2, 1) := dd_at dd_Mo_expression 174 rfl
theorem d_Mo_expression_332 : decode prog_14_method_28_code 332 = .ok (.ireturn, 1) := dd_at dd_Mo_expression 175 rfl
def ld_Mo_setArg : List (Nat × Instr × Nat) := [(0, .aload_n 0, 1), (1, .getfield 49, 3), (4, .sipush (192), 3), (7, .iload_n 1, 1), (8, .iadd, 1), (9, .iload_n 2, 1), (10, .iastore, 1), (11, .return_, 1)]
theorem dd_Mo_setArg : (ld_Mo_setArg).all (dOK prog_14_method_29_code) = true := by decide +kernel
theorem d_Mo_setArg_0 : decode prog_14_method_29_code 0 = .ok (.aload_n 0, 1) := dd_at dd_Mo_setArg 0 rfl
theorem d_Mo_setArg_1 : decode prog_14_method_29_code 1 = .ok (.getfield 49, 3) := dd_at dd_Mo_setArg 1 rfl
theorem d_Mo_setArg_4 : decode prog_14_method_29_code 4 = .ok (.sipush (192), 3) := dd_at dd_Mo_setArg 2 rfl
theorem d_Mo_setArg_7 : decode prog_14_method_29_code 7 = .ok (.iload_n 1, 1) := dd_at dd_Mo_setArg 3 rfl
theorem d_Mo_setArg_8 : decode prog_14_method_29_code 8 = .ok (.iadd, 1) := dd_at dd_Mo_setArg 4 rfl
theorem d_Mo_setArg_9 : decode prog_14_method_29_code 9 = .ok (.iload_n 2, 1) := dd_at dd_Mo_setArg 5 rfl
theorem d_Mo_setArg_10 : decode prog_14_method_29_code 10 = .ok (.iastore, 1) := dd_at dd_Mo_setArg 6 rfl
theorem d_Mo_setArg_11 : decode prog_14_method_29_code 11 = .ok (.return_, 1) := dd_at dd_Mo_setArg 7 rfl
def ld_Mo_setExpr : List (Nat × Instr × Nat) := [(0, .aload_n 0, 1), (1, .getfield 52, 3), (4, .bipush (96), 2), (6, .iload_n 1, 1), (7, .iadd, 1), (8, .iload_n 2, 1), (9, .iastore, 1), (10, .return_, 1)]
theorem dd_Mo_setExpr : (ld_Mo_setExpr).all (dOK prog_14_method_30_code) = true := by decide +kernel
theorem d_Mo_setExpr_0 : decode prog_14_method_30_code 0 = .ok (.aload_n 0, 1) := dd_at dd_Mo_setExpr 0 rfl
theorem d_Mo_setExpr_1 : decode prog_14_method_30_code 1 = .ok (.getfield 52, 3) := dd_at dd_Mo_setExpr 1 rfl
theorem d_Mo_setExpr_4 : decode prog_14_method_30_code 4 = .ok (.bipush (96), 2) := dd_at dd_Mo_setExpr 2 rfl
theorem d_Mo_setExpr_6 : decode prog_14_method_30_code 6 = .ok (.iload_n 1, 1) := dd_at dd_Mo_setExpr 3 rfl
theorem d_Mo_setExpr_7 : decode prog_14_method_30_code 7 = .ok (.iadd, 1) := dd_at dd_Mo_setExpr 4 rfl
theorem d_Mo_setExpr_8 : decode prog_14_method_30_code 8 = .ok (.iload_n 2, 1) := dd_at dd_Mo_setExpr 5 rfl
theorem d_Mo_setExpr_9 : decode prog_14_method_30_code 9 = .ok (.iastore, 1) := dd_at dd_Mo_setExpr 6 rfl
theorem d_Mo_setExpr_10 : decode prog_14_method_30_code 10 = .ok (.return_, 1) := dd_at dd_Mo_setExpr 7 rfl
def ld_Mo_target : List (Nat × Instr × Nat) := [(0, .aload_n 0, 1), (1, .aload_n 0, 1), (2, .invokevirtual 156, 3), (5, .invokevirtual 241, 3), (8, .ifCond .ne (13), 3), (11, .aload_n 0, 1), (12, .iconst 0, 1), (13, .aload_n 0, 1), (14, .invokevirtual 261, 3), (17, .invokevirtual 279, 3), (20, .return_, 1), (21, .aload_n 0, 1), (22, .iconst 0, 1), (23, .bipush (26), 2), (25, .aload_n 0, 1), (26, .invokevirtual 283, 3), (29, .iadd, 1), (30, .invokevirtual 279, 3), (33, .aload_n 0, 1), (34, .invokevirtual 267, 3), (37, .aload_n 0, 1), (38, .iconst 0, 1), (39, .aload_n 0, 1), (40, .iconst 0, 1), (41, .invokevirtual 286, 3), (44, .invokevirtual 290, 3), (47, .aload_n 0, 1), (48, .bipush (44), 2), (50, .invokevirtual 248, 3), (53, .aload_n 0, 1), (54, .iconst 1, 1), (55, .aload_n 0, 1), (56, .iconst 0, 1), (57, .invokevirtual 286, 3), (60, .invokevirtual 290, 3), (63, .aload_n 0, 1), (64, .invokevirtual 293, 3), (67, .return_, 1)]
theorem dd_Mo_target : (ld_Mo_target).all (dOK prog_14_method_31_code) = true := by decide +kernel
theorem d_Mo_target_0 : decode prog_14_method_31_code 0 = .ok (.aload_n 0, 1) := dd_at dd_Mo_target 0 rfl
theorem d_Mo_target_1 : decode prog_14_method_31_code 1 = .ok (.aload_n 0, 1) := dd_at dd_Mo_target 1 rfl
theorem d_Mo_target_2 : decode prog_14_method_31_code 2 = .ok (.invokevirtual 156, 3) := dd_at dd_Mo_target 2 rfl
theorem d_Mo_target_5 : decode prog_14_method_31_code 5 = .ok (.invokevirtual 241, 3) := dd_at dd_Mo_target 3 rfl
theorem d_Mo_target_8 : decode prog_14_method_31_code 8 = .ok (.ifCond .ne (13), 3) := dd_at dd_Mo_target 4 rfl
theorem d_Mo_target_11 : decode prog_14_method_31_code 11 = .ok (.aload_n 0, 1) := dd_at dd_Mo_target 5 rfl
theorem d_Mo_target_12 : decode prog_14_method_31_code 12 = .ok (.iconst 0, 1) := dd_at dd_Mo_target 6 rfl
theorem d_Mo_target_13 : decode prog_14_method_31_code 13 = .ok (.aload_n 0, 1) := dd_at dd_Mo_target 7 rfl
theorem d_Mo_target_14 : decode prog_14_method_31_code 14 = .ok (.invokevirtual 261, 3) := dd_at dd_Mo_target 8 rfl
theorem d_Mo_target_17 : decode prog_14_method_31_code 17 = .ok (.invokevirtual 279, 3) := dd_at dd_Mo_target 9 rfl
theorem d_Mo_target_20 : decode prog_14_method_31_code 20 = .ok (.return_, 1) := dd_at dd_Mo_target 10 rfl
theorem d_Mo_target_21 : decode prog_14_method_31_code 21 = .ok (.aload_n 0, 1) := dd_at dd_Mo_target 11 rfl
theorem d_Mo_target_22 : decode prog_14_method_31_code 22 = .ok (.iconst 0, 1) := dd_at dd_Mo_target 12 rfl
theorem d_Mo_target_23 : decode prog_14_method_31_code 23 = .ok (.bipush (26), 2) := dd_at dd_Mo_target 13 rfl
theorem d_Mo_target_25 : decode prog_14_method_31_code 25 = .ok (.aload_n 0, 1) := dd_at dd_Mo_target 14 rfl
theorem d_Mo_target_26 : decode prog_14_method_31_code 26 = .ok (.invokevirtual 283, 3) := dd_at dd_Mo_target 15 rfl
theorem d_Mo_target_29 : decode prog_14_method_31_code 29 = .ok (.iadd, 1) := dd_at dd_Mo_target 16 rfl
theorem d_Mo_target_30 : decode prog_14_method_31_code 30 = .ok (.invokevirtual 279, 3) := dd_at dd_Mo_target 17 rfl
theorem d_Mo_target_33 : decode prog_14_method_31_code 33 = .ok (.aload_n 0, 1) := dd_at dd_Mo_target 18 rfl
theorem d_Mo_target_34 : decode prog_14_method_31_code 34 = .ok (.invokevirtual 267, 3) := dd_at dd_Mo_target 19 rfl
theorem d_Mo_target_37 : decode prog_14_method_31_code 37 = .ok (.aload_n 0, 1) := dd_at dd_Mo_target 20 rfl
theorem d_Mo_target_38 : decode prog_14_method_31_code 38 = .ok (.iconst 0, 1) := dd_at dd_Mo_target 21 rfl
theorem d_Mo_target_39 : decode prog_14_method_31_code 39 = .ok (.aload_n 0, 1) := dd_at dd_Mo_target 22 rfl
theorem d_Mo_target_40 : decode prog_14_method_31_code 40 = .ok (.iconst 0, 1) := dd_at dd_Mo_target 23 rfl
theorem d_Mo_target_41 : decode prog_14_method_31_code 41 = .ok (.invokevirtual 286, 3) := dd_at dd_Mo_target 24 rfl
theorem d_Mo_target_44 : decode prog_14_method_31_code 44 = .ok (.invokevirtual 290, 3) := dd_at dd_Mo_target 25 rfl
theorem d_Mo_target_47 : decode prog_14_method_31_code 47 = .ok (.aload_n 0, 1) := dd_at dd_Mo_target 26 rfl
theorem d_Mo_target_48 : decode prog_14_method_31_code 48 = .ok (.bipush (44), 2) := dd_at dd_Mo_target 27 rfl
theorem d_Mo_target_50 : decode prog_14_method_31_code 50 = .ok (.invokevirtual 248, 3) := dd_at dd_Mo_target 28 rfl
theorem d_Mo_target_53 : decode prog_14_method_31_code 53 = .ok (.aload_n 0, 1) := dd_at dd_Mo_target 29 rfl
theorem d_Mo_target_54 : decode prog_14_method_31_code 54 = .ok (.iconst 1, 1) := dd_at dd_Mo_target 30 rfl
theorem d_Mo_target_55 : decode prog_14_method_31_code 55 = .ok (.aload_n 0, 1) := dd_at dd_Mo_target 31 rfl
theorem d_Mo_target_56 : decode prog_14_method_31_code 56 = .ok (.iconst 0, 1) := dd_at dd_Mo_target 32 rfl
theorem d_Mo_target_57 : decode prog_14_method_31_code 57 = .ok (.invokevirtual 286, 3) := dd_at dd_Mo_target 33 rfl
theorem d_Mo_target_60 : decode prog_14_method_31_code 60 = .ok (.invokevirtual 290, 3) := dd_at dd_Mo_target 34 rfl
theorem d_Mo_target_63 : decode prog_14_method_31_code 63 = .ok (.aload_n 0, 1) := dd_at dd_Mo_target 35 rfl
theorem d_Mo_target_64 : decode prog_14_method_31_code 64 = .ok (.invokevirtual 293, 3) := dd_at dd_Mo_target 36 rfl
theorem d_Mo_target_67 : decode prog_14_method_31_code 67 = .ok (.return_, 1) := dd_at dd_Mo_target 37 rfl
def ld_Mo_condition : List (Nat × Instr × Nat) := [(0, .aload_n 0, 1), (1, .iconst 0, 1), (2, .aload_n 0, 1), (3, .iconst 0, 1), (4, .invokevirtual 286, 3), (7, .invokevirtual 290, 3), (10, .aload_n 0, 1), (11, .bipush (61), 2), (13, .invokevirtual 160, 3), (16, .ifCond .eq (7), 3), (19, .iconst 0, 1), (20, .goto (69), 3), (23, .aload_n 0, 1), (24, .bipush (60), 2), (26, .invokevirtual 160, 3), (29, .ifCond .eq (33), 3), (32, .aload_n 0, 1), (33, .bipush (61), 2), (35, .invokevirtual 160, 3), (38, .ifCond .eq (7), 3), (41, .iconst 3, 1), (42, .goto (47), 3), (45, .aload_n 0, 1), (46, .bipush (62), 2), (48, .invokevirtual 160, 3), (51, .ifCond .eq (7), 3), (54, .iconst 5, 1), (55, .goto (34), 3), (58, .iconst 1, 1), (59, .goto (30), 3), (62, .aload_n 0, 1), (63, .bipush (62), 2), (65, .invokevirtual 160, 3), (68, .ifCond .eq (20), 3), (71, .aload_n 0, 1), (72, .bipush (61), 2), (74, .invokevirtual 160, 3), (77, .ifCond .eq (7), 3), (80, .iconst 4, 1), (81, .goto (8), 3), (84, .iconst 2, 1), (85, .goto (4), 3), (88, .iconst (-1), 1), (89, .istore_n 1, 1), (90, .iload_n 1, 1), (91, .ifCond .ge (8), 3), (94, .aload_n 0, 1), (95, .iconst 1, 1), (96, .putfield 31, 3), (99, .aload_n 0, 1), (100, .iconst 1, 1), (101, .iload_n 1, 1), (102, .invokevirtual 279, 3), (105, .aload_n 0, 1), (106, .iconst 1, 1), (107, .aload_n 0, 1), (108, .iconst 0, 1), (109, .invokevirtual 286, 3), (112, .invokevirtual 290, 3), (115, .aload_n 0, 1), (116, .bipush (17), 2), (118, .bipush (17), 2), (120, .invokevirtual 257, 3), (123, .pop, 1), (124, .aload_n 0, 1), (125, .iconst 0, 1), (126, .aload_n 0, 1), (127, .invokevirtual 296, 3), (130, .invokevirtual 279, 3), (133, .return_, 1)]
theorem dd_Mo_condition : (ld_Mo_condition).all (dOK prog_14_method_32_code) = true := by decide +kernel
theorem d_Mo_condition_0 : decode prog_14_method_32_code 0 = .ok (.aload_n 0, 1) := dd_at dd_Mo_condition 0 rfl
theorem d_Mo_condition_1 : decode prog_14_method_32_code 1 = .ok (.iconst 0, 1) := dd_at dd_Mo_condition 1 rfl
theorem d_Mo_condition_2 : decode prog_14_method_32_code 2 = .ok (.aload_n 0, 1) := dd_at dd_Mo_condition 2 rfl
theorem d_Mo_condition_3 : decode prog_14_method_32_code 3 = .ok (.iconst 0, 1) := dd_at dd_Mo_condition 3 rfl
theorem d_Mo_condition_4 : decode prog_14_method_32_code 4 = .ok (.invokevirtual 286, 3) := dd_at dd_Mo_condition 4 rfl
theorem d_Mo_condition_7 : decode prog_14_method_32_code 7 = .ok (.invokevirtual 290, 3) := dd_at dd_Mo_condition 5 rfl
theorem d_Mo_condition_10 : decode prog_14_method_32_code 10 = .ok (.aload_n 0, 1) := dd_at dd_Mo_condition 6 rfl
theorem d_Mo_condition_11 : decode prog_14_method_32_code 11 = .ok (.bipush (61), 2) := dd_at dd_Mo_condition 7 rfl
theorem d_Mo_condition_13 : decode prog_14_method_32_code 13 = .ok (.invokevirtual 160, 3) := dd_at dd_Mo_condition 8 rfl
theorem d_Mo_condition_16 : decode prog_14_method_32_code 16 = .ok (.ifCond .eq (7), 3) := dd_at dd_Mo_condition 9 rfl
theorem d_Mo_condition_19 : decode prog_14_method_32_code 19 = .ok (.iconst 0, 1) := dd_at dd_Mo_condition 10 rfl
theorem d_Mo_condition_20 : decode prog_14_method_32_code 20 = .ok (.goto (69), 3) := dd_at dd_Mo_condition 11 rfl
theorem d_Mo_condition_23 : decode prog_14_method_32_code 23 = .ok (.aload_n 0, 1) := dd_at dd_Mo_condition 12 rfl
theorem d_Mo_condition_24 : decode prog_14_method_32_code 24 = .ok (.bipush (60), 2) := dd_at dd_Mo_condition 13 rfl
theorem d_Mo_condition_26 : decode prog_14_method_32_code 26 = .ok (.invokevirtual 160, 3) := dd_at dd_Mo_condition 14 rfl
theorem d_Mo_condition_29 : decode prog_14_method_32_code 29 = .ok (.ifCond .eq (33), 3) := dd_at dd_Mo_condition 15 rfl
theorem d_Mo_condition_32 : decode prog_14_method_32_code 32 = .ok (.aload_n 0, 1) := dd_at dd_Mo_condition 16 rfl
theorem d_Mo_condition_33 : decode prog_14_method_32_code 33 = .ok (.bipush (61), 2) := dd_at dd_Mo_condition 17 rfl
theorem d_Mo_condition_35 : decode prog_14_method_32_code 35 = .ok (.invokevirtual 160, 3) := dd_at dd_Mo_condition 18 rfl
theorem d_Mo_condition_38 : decode prog_14_method_32_code 38 = .ok (.ifCond .eq (7), 3) := dd_at dd_Mo_condition 19 rfl
theorem d_Mo_condition_41 : decode prog_14_method_32_code 41 = .ok (.iconst 3, 1) := dd_at dd_Mo_condition 20 rfl
theorem d_Mo_condition_42 : decode prog_14_method_32_code 42 = .ok (.goto (47), 3) := dd_at dd_Mo_condition 21 rfl
theorem d_Mo_condition_45 : decode prog_14_method_32_code 45 = .ok (.aload_n 0, 1) := dd_at dd_Mo_condition 22 rfl
theorem d_Mo_condition_46 : decode prog_14_method_32_code 46 = .ok (.bipush (62), 2) := dd_at dd_Mo_condition 23 rfl
theorem d_Mo_condition_48 : decode prog_14_method_32_code 48 = .ok (.invokevirtual 160, 3) := dd_at dd_Mo_condition 24 rfl
theorem d_Mo_condition_51 : decode prog_14_method_32_code 51 = .ok (.ifCond .eq (7), 3) := dd_at dd_Mo_condition 25 rfl
theorem d_Mo_condition_54 : decode prog_14_method_32_code 54 = .ok (.iconst 5, 1) := dd_at dd_Mo_condition 26 rfl
theorem d_Mo_condition_55 : decode prog_14_method_32_code 55 = .ok (.goto (34), 3) := dd_at dd_Mo_condition 27 rfl
theorem d_Mo_condition_58 : decode prog_14_method_32_code 58 = .ok (.iconst 1, 1) := dd_at dd_Mo_condition 28 rfl
theorem d_Mo_condition_59 : decode prog_14_method_32_code 59 = .ok (.goto (30), 3) := dd_at dd_Mo_condition 29 rfl
theorem d_Mo_condition_62 : decode prog_14_method_32_code 62 = .ok (.aload_n 0, 1) := dd_at dd_Mo_condition 30 rfl
theorem d_Mo_condition_63 : decode prog_14_method_32_code 63 = .ok (.bipush (62), 2) := dd_at dd_Mo_condition 31 rfl
theorem d_Mo_condition_65 : decode prog_14_method_32_code 65 = .ok (.invokevirtual 160, 3) := dd_at dd_Mo_condition 32 rfl
theorem d_Mo_condition_68 : decode prog_14_method_32_code 68 = .ok (.ifCond .eq (20), 3) := dd_at dd_Mo_condition 33 rfl
theorem d_Mo_condition_71 : decode prog_14_method_32_code 71 = .ok (.aload_n 0, 1) := dd_at dd_Mo_condition 34 rfl
theorem d_Mo_condition_72 : decode prog_14_method_32_code 72 = .ok (.bipush (61), 2) := dd_at dd_Mo_condition 35 rfl
theorem d_Mo_condition_74 : decode prog_14_method_32_code 74 = .ok (.invokevirtual 160, 3) := dd_at dd_Mo_condition 36 rfl
theorem d_Mo_condition_77 : decode prog_14_method_32_code 77 = .ok (.ifCond .eq (7), 3) := dd_at dd_Mo_condition 37 rfl
theorem d_Mo_condition_80 : decode prog_14_method_32_code 80 = .ok (.iconst 4, 1) := dd_at dd_Mo_condition 38 rfl
theorem d_Mo_condition_81 : decode prog_14_method_32_code 81 = .ok (.goto (8), 3) := dd_at dd_Mo_condition 39 rfl
theorem d_Mo_condition_84 : decode prog_14_method_32_code 84 = .ok (.iconst 2, 1) := dd_at dd_Mo_condition 40 rfl
theorem d_Mo_condition_85 : decode prog_14_method_32_code 85 = .ok (.goto (4), 3) := dd_at dd_Mo_condition 41 rfl
theorem d_Mo_condition_88 : decode prog_14_method_32_code 88 = .ok (.iconst (-1), 1) := dd_at dd_Mo_condition 42 rfl
theorem d_Mo_condition_89 : decode prog_14_method_32_code 89 = .ok (.istore_n 1, 1) := dd_at dd_Mo_condition 43 rfl
theorem d_Mo_condition_90 : decode prog_14_method_32_code 90 = .ok (.iload_n 1, 1) := dd_at dd_Mo_condition 44 rfl
theorem d_Mo_condition_91 : decode prog_14_method_32_code 91 = .ok (.ifCond .ge (8), 3) := dd_at dd_Mo_condition 45 rfl
theorem d_Mo_condition_94 : decode prog_14_method_32_code 94 = .ok (.aload_n 0, 1) := dd_at dd_Mo_condition 46 rfl
theorem d_Mo_condition_95 : decode prog_14_method_32_code 95 = .ok (.iconst 1, 1) := dd_at dd_Mo_condition 47 rfl
theorem d_Mo_condition_96 : decode prog_14_method_32_code 96 = .ok (.putfield 31, 3) := dd_at dd_Mo_condition 48 rfl
theorem d_Mo_condition_99 : decode prog_14_method_32_code 99 = .ok (.aload_n 0, 1) := dd_at dd_Mo_condition 49 rfl
theorem d_Mo_condition_100 : decode prog_14_method_32_code 100 = .ok (.iconst 1, 1) := dd_at dd_Mo_condition 50 rfl
theorem d_Mo_condition_101 : decode prog_14_method_32_code 101 = .ok (.iload_n 1, 1) := dd_at dd_Mo_condition 51 rfl
theorem d_Mo_condition_102 : decode prog_14_method_32_code 102 = .ok (.invokevirtual 279, 3) := dd_at dd_Mo_condition 52 rfl
theorem d_Mo_condition_105 : decode prog_14_method_32_code 105 = .ok (.aload_n 0, 1) := dd_at dd_Mo_condition 53 rfl
theorem d_Mo_condition_106 : decode prog_14_method_32_code 106 = .ok (.iconst 1, 1) := dd_at dd_Mo_condition 54 rfl
theorem d_Mo_condition_107 : decode prog_14_method_32_code 107 = .ok (.aload_n 0, 1) := dd_at dd_Mo_condition 55 rfl
theorem d_Mo_condition_108 : decode prog_14_method_32_code 108 = .ok (.iconst 0, 1) := dd_at dd_Mo_condition 56 rfl
theorem d_Mo_condition_109 : decode prog_14_method_32_code 109 = .ok (.invokevirtual 286, 3) := dd_at dd_Mo_condition 57 rfl
theorem d_Mo_condition_112 : decode prog_14_method_32_code 112 = .ok (.invokevirtual 290, 3) := dd_at dd_Mo_condition 58 rfl
theorem d_Mo_condition_115 : decode prog_14_method_32_code 115 = .ok (.aload_n 0, 1) := dd_at dd_Mo_condition 59 rfl
theorem d_Mo_condition_116 : decode prog_14_method_32_code 116 = .ok (.bipush (17), 2) := dd_at dd_Mo_condition 60 rfl
theorem d_Mo_condition_118 : decode prog_14_method_32_code 118 = .ok (.bipush (17), 2) := dd_at dd_Mo_condition 61 rfl
theorem d_Mo_condition_120 : decode prog_14_method_32_code 120 = .ok (.invokevirtual 257, 3) := dd_at dd_Mo_condition 62 rfl
theorem d_Mo_condition_123 : decode prog_14_method_32_code 123 = .ok (.pop, 1) := dd_at dd_Mo_condition 63 rfl
theorem d_Mo_condition_124 : decode prog_14_method_32_code 124 = .ok (.aload_n 0, 1) := dd_at dd_Mo_condition 64 rfl
theorem d_Mo_condition_125 : decode prog_14_method_32_code 125 = .ok (.iconst 0, 1) := dd_at dd_Mo_condition 65 rfl
theorem d_Mo_condition_126 : decode prog_14_method_32_code 126 = .ok (.aload_n 0, 1) := dd_at dd_Mo_condition 66 rfl
theorem d_Mo_condition_127 : decode prog_14_method_32_code 127 = .ok (.invokevirtual 296, 3) := dd_at dd_Mo_condition 67 rfl
theorem d_Mo_condition_130 : decode prog_14_method_32_code 130 = .ok (.invokevirtual 279, 3) := dd_at dd_Mo_condition 68 rfl
theorem d_Mo_condition_133 : decode prog_14_method_32_code 133 = .ok (.return_, 1) := dd_at dd_Mo_condition 69 rfl
def ld_Mo_choice : List (Nat × Instr × Nat) := [(0, .aload_n 0, 1), (1, .iconst 0, 1), (2, .aload_n 0, 1), (3, .iconst 1, 1), (4, .invokevirtual 286, 3), (7, .invokevirtual 290, 3), (10, .aload_n 0, 1), (11, .iconst 3, 1), (12, .iconst 3, 1), (13, .invokevirtual 257, 3), (16, .pop, 1), (17, .iconst 0, 1), (18, .istore_n 1, 1), (19, .aload_n 0, 1), (20, .getfield 31, 3), (23, .ifCond .ne (37), 3), (26, .iload_n 1, 1), (27, .iconst 4, 1), (28, .if_icmp .ge (32), 3), (31, .iinc 1 (1), 3), (34, .aload_n 0, 1), (35, .iload_n 1, 1), (36, .aload_n 0, 1), (37, .invokevirtual 296, 3), (40, .invokevirtual 279, 3), (43, .iload_n 1, 1), (44, .iconst 4, 1), (45, .if_icmp .eq (15), 3), (48, .aload_n 0, 1), (49, .bipush (44), 2), (51, .invokevirtual 160, 3), (54, .ifCond .ne (-35), 3), (57, .goto (3), 3), (60, .aload_n 0, 1), (61, .iconst 0, 1), (62, .iload_n 1, 1), (63, .invokevirtual 279, 3), (66, .return_, 1)]
theorem dd_Mo_choice : (ld_Mo_choice).all (dOK prog_14_method_33_code) = true := by decide +kernel
theorem d_Mo_choice_0 : decode prog_14_method_33_code 0 = .ok (.aload_n 0, 1) := dd_at dd_Mo_choice 0 rfl
theorem d_Mo_choice_1 : decode prog_14_method_33_code 1 = .ok (.iconst 0, 1) := dd_at dd_Mo_choice 1 rfl
theorem d_Mo_choice_2 : decode prog_14_method_33_code 2 = .ok (.aload_n 0, 1) := dd_at dd_Mo_choice 2 rfl
theorem d_Mo_choice_3 : decode prog_14_method_33_code 3 = .ok (.iconst 1, 1) := dd_at dd_Mo_choice 3 rfl
theorem d_Mo_choice_4 : decode prog_14_method_33_code 4 = .ok (.invokevirtual 286, 3) := dd_at dd_Mo_choice 4 rfl
theorem d_Mo_choice_7 : decode prog_14_method_33_code 7 = .ok (.invokevirtual 290, 3) := dd_at dd_Mo_choice 5 rfl
theorem d_Mo_choice_10 : decode prog_14_method_33_code 10 = .ok (.aload_n 0, 1) := dd_at dd_Mo_choice 6 rfl
theorem d_Mo_choice_11 : decode prog_14_method_33_code 11 = .ok (.iconst 3, 1) := dd_at dd_Mo_choice 7 rfl
theorem d_Mo_choice_12 : decode prog_14_method_33_code 12 = .ok (.iconst 3, 1) := dd_at dd_Mo_choice 8 rfl
theorem d_Mo_choice_13 : decode prog_14_method_33_code 13 = .ok (.invokevirtual 257, 3) := dd_at dd_Mo_choice 9 rfl
theorem d_Mo_choice_16 : decode prog_14_method_33_code 16 = .ok (.pop, 1) := dd_at dd_Mo_choice 10 rfl
theorem d_Mo_choice_17 : decode prog_14_method_33_code 17 = .ok (.iconst 0, 1) := dd_at dd_Mo_choice 11 rfl
theorem d_Mo_choice_18 : decode prog_14_method_33_code 18 = .ok (.istore_n 1, 1) := dd_at dd_Mo_choice 12 rfl
theorem d_Mo_choice_19 : decode prog_14_method_33_code 19 = .ok (.aload_n 0, 1) := dd_at dd_Mo_choice 13 rfl
theorem d_Mo_choice_20 : decode prog_14_method_33_code 20 = .ok (.getfield 31, 3) := dd_at dd_Mo_choice 14 rfl
theorem d_Mo_choice_23 : decode prog_14_method_33_code 23 = .ok (.ifCond .ne (37), 3) := dd_at dd_Mo_choice 15 rfl
theorem d_Mo_choice_26 : decode prog_14_method_33_code 26 = .ok (.iload_n 1, 1) := dd_at dd_Mo_choice 16 rfl
theorem d_Mo_choice_27 : decode prog_14_method_33_code 27 = .ok (.iconst 4, 1) := dd_at dd_Mo_choice 17 rfl
theorem d_Mo_choice_28 : decode prog_14_method_33_code 28 = .ok (.if_icmp .ge (32), 3) := dd_at dd_Mo_choice 18 rfl
theorem d_Mo_choice_31 : decode prog_14_method_33_code 31 = .ok (.iinc 1 (1), 3) := dd_at dd_Mo_choice 19 rfl
theorem d_Mo_choice_34 : decode prog_14_method_33_code 34 = .ok (.aload_n 0, 1) := dd_at dd_Mo_choice 20 rfl
theorem d_Mo_choice_35 : decode prog_14_method_33_code 35 = .ok (.iload_n 1, 1) := dd_at dd_Mo_choice 21 rfl
theorem d_Mo_choice_36 : decode prog_14_method_33_code 36 = .ok (.aload_n 0, 1) := dd_at dd_Mo_choice 22 rfl
theorem d_Mo_choice_37 : decode prog_14_method_33_code 37 = .ok (.invokevirtual 296, 3) := dd_at dd_Mo_choice 23 rfl
theorem d_Mo_choice_40 : decode prog_14_method_33_code 40 = .ok (.invokevirtual 279, 3) := dd_at dd_Mo_choice 24 rfl
theorem d_Mo_choice_43 : decode prog_14_method_33_code 43 = .ok (.iload_n 1, 1) := dd_at dd_Mo_choice 25 rfl
theorem d_Mo_choice_44 : decode prog_14_method_33_code 44 = .ok (.iconst 4, 1) := dd_at dd_Mo_choice 26 rfl
theorem d_Mo_choice_45 : decode prog_14_method_33_code 45 = .ok (.if_icmp .eq (15), 3) := dd_at dd_Mo_choice 27 rfl
theorem d_Mo_choice_48 : decode prog_14_method_33_code 48 = .ok (.aload_n 0, 1) := dd_at dd_Mo_choice 28 rfl
theorem d_Mo_choice_49 : decode prog_14_method_33_code 49 = .ok (.bipush (44), 2) := dd_at dd_Mo_choice 29 rfl
theorem d_Mo_choice_51 : decode prog_14_method_33_code 51 = .ok (.invokevirtual 160, 3) := dd_at dd_Mo_choice 30 rfl
theorem d_Mo_choice_54 : decode prog_14_method_33_code 54 = .ok (.ifCond .ne (-35), 3) := dd_at dd_Mo_choice 31 rfl
theorem d_Mo_choice_57 : decode prog_14_method_33_code 57 = .ok (.goto (3), 3) := dd_at dd_Mo_choice 32 rfl
theorem d_Mo_choice_60 : decode prog_14_method_33_code 60 = .ok (.aload_n 0, 1) := dd_at dd_Mo_choice 33 rfl
theorem d_Mo_choice_61 : decode prog_14_method_33_code 61 = .ok (.iconst 0, 1) := dd_at dd_Mo_choice 34 rfl
theorem d_Mo_choice_62 : decode prog_14_method_33_code 62 = .ok (.iload_n 1, 1) := dd_at dd_Mo_choice 35 rfl
theorem d_Mo_choice_63 : decode prog_14_method_33_code 63 = .ok (.invokevirtual 279, 3) := dd_at dd_Mo_choice 36 rfl
theorem d_Mo_choice_66 : decode prog_14_method_33_code 66 = .ok (.return_, 1) := dd_at dd_Mo_choice 37 rfl
def ld_Mo_loop : List (Nat × Instr × Nat) := [(0, .aload_n 0, 1), (1, .iconst 0, 1), (2, .aload_n 0, 1), (3, .invokevirtual 261, 3), (6, .invokevirtual 279, 3), (9, .aload_n 0, 1), (10, .bipush (61), 2), (12, .invokevirtual 248, 3), (15, .aload_n 0, 1), (16, .iconst 0, 1), (17, .aload_n 0, 1), (18, .iconst 0, 1), (19, .invokevirtual 286, 3), (22, .invokevirtual 290, 3), (25, .aload_n 0, 1), (26, .bipush (18), 2), (28, .bipush (18), 2), (30, .invokevirtual 257, 3), (33, .pop, 1), (34, .aload_n 0, 1), (35, .iconst 1, 1), (36, .aload_n 0, 1), (37, .iconst 0, 1), (38, .invokevirtual 286, 3), (41, .invokevirtual 290, 3), (44, .aload_n 0, 1), (45, .iconst 1, 1), (46, .iconst 0, 1), (47, .invokevirtual 279, 3), (50, .aload_n 0, 1), (51, .getfield 31, 3), (54, .ifCond .ne (12), 3), (57, .aload_n 0, 1), (58, .invokevirtual 156, 3), (61, .bipush (83), 2), (63, .if_icmp .eq (4), 3), (66, .return_, 1), (67, .aload_n 0, 1), (68, .bipush (19), 2), (70, .bipush (19), 2), (72, .invokevirtual 257, 3), (75, .pop, 1), (76, .aload_n 0, 1), (77, .iconst 1, 1), (78, .iconst 1, 1), (79, .invokevirtual 279, 3), (82, .aload_n 0, 1), (83, .iconst 2, 1), (84, .aload_n 0, 1), (85, .iconst 0, 1), (86, .invokevirtual 286, 3), (89, .invokevirtual 290, 3), (92, .return_, 1)]
theorem dd_Mo_loop : (ld_Mo_loop).all (dOK prog_14_method_34_code) = true := by decide +kernel
theorem d_Mo_loop_0 : decode prog_14_method_34_code 0 = .ok (.aload_n 0, 1) := dd_at dd_Mo_loop 0 rfl
theorem d_Mo_loop_1 : decode prog_14_method_34_code 1 = .ok (.iconst 0, 1) := dd_at dd_Mo_loop 1 rfl
theorem d_Mo_loop_2 : decode prog_14_method_34_code 2 = .ok (.aload_n 0, 1) := dd_at dd_Mo_loop 2 rfl
theorem d_Mo_loop_3 : decode prog_14_method_34_code 3 = .ok (.invokevirtual 261, 3) := dd_at dd_Mo_loop 3 rfl
theorem d_Mo_loop_6 : decode prog_14_method_34_code 6 = .ok (.invokevirtual 279, 3) := dd_at dd_Mo_loop 4 rfl
theorem d_Mo_loop_9 : decode prog_14_method_34_code 9 = .ok (.aload_n 0, 1) := dd_at dd_Mo_loop 5 rfl
theorem d_Mo_loop_10 : decode prog_14_method_34_code 10 = .ok (.bipush (61), 2) := dd_at dd_Mo_loop 6 rfl
theorem d_Mo_loop_12 : decode prog_14_method_34_code 12 = .ok (.invokevirtual 248, 3) := dd_at dd_Mo_loop 7 rfl
theorem d_Mo_loop_15 : decode prog_14_method_34_code 15 = .ok (.aload_n 0, 1) := dd_at dd_Mo_loop 8 rfl
theorem d_Mo_loop_16 : decode prog_14_method_34_code 16 = .ok (.iconst 0, 1) := dd_at dd_Mo_loop 9 rfl
theorem d_Mo_loop_17 : decode prog_14_method_34_code 17 = .ok (.aload_n 0, 1) := dd_at dd_Mo_loop 10 rfl
theorem d_Mo_loop_18 : decode prog_14_method_34_code 18 = .ok (.iconst 0, 1) := dd_at dd_Mo_loop 11 rfl
theorem d_Mo_loop_19 : decode prog_14_method_34_code 19 = .ok (.invokevirtual 286, 3) := dd_at dd_Mo_loop 12 rfl
theorem d_Mo_loop_22 : decode prog_14_method_34_code 22 = .ok (.invokevirtual 290, 3) := dd_at dd_Mo_loop 13 rfl
theorem d_Mo_loop_25 : decode prog_14_method_34_code 25 = .ok (.aload_n 0, 1) := dd_at dd_Mo_loop 14 rfl
theorem d_Mo_loop_26 : decode prog_14_method_34_code 26 = .ok (.bipush (18), 2) := dd_at dd_Mo_loop 15 rfl
theorem d_Mo_loop_28 : decode prog_14_method_34_code 28 = .ok (.bipush (18), 2) := dd_at dd_Mo_loop 16 rfl
theorem d_Mo_loop_30 : decode prog_14_method_34_code 30 = .ok (.invokevirtual 257, 3) := dd_at dd_Mo_loop 17 rfl
theorem d_Mo_loop_33 : decode prog_14_method_34_code 33 = .ok (.pop, 1) := dd_at dd_Mo_loop 18 rfl
theorem d_Mo_loop_34 : decode prog_14_method_34_code 34 = .ok (.aload_n 0, 1) := dd_at dd_Mo_loop 19 rfl
theorem d_Mo_loop_35 : decode prog_14_method_34_code 35 = .ok (.iconst 1, 1) := dd_at dd_Mo_loop 20 rfl
theorem d_Mo_loop_36 : decode prog_14_method_34_code 36 = .ok (.aload_n 0, 1) := dd_at dd_Mo_loop 21 rfl
theorem d_Mo_loop_37 : decode prog_14_method_34_code 37 = .ok (.iconst 0, 1) := dd_at dd_Mo_loop 22 rfl
theorem d_Mo_loop_38 : decode prog_14_method_34_code 38 = .ok (.invokevirtual 286, 3) := dd_at dd_Mo_loop 23 rfl
theorem d_Mo_loop_41 : decode prog_14_method_34_code 41 = .ok (.invokevirtual 290, 3) := dd_at dd_Mo_loop 24 rfl
theorem d_Mo_loop_44 : decode prog_14_method_34_code 44 = .ok (.aload_n 0, 1) := dd_at dd_Mo_loop 25 rfl
theorem d_Mo_loop_45 : decode prog_14_method_34_code 45 = .ok (.iconst 1, 1) := dd_at dd_Mo_loop 26 rfl
theorem d_Mo_loop_46 : decode prog_14_method_34_code 46 = .ok (.iconst 0, 1) := dd_at dd_Mo_loop 27 rfl
theorem d_Mo_loop_47 : decode prog_14_method_34_code 47 = .ok (.invokevirtual 279, 3) := dd_at dd_Mo_loop 28 rfl
theorem d_Mo_loop_50 : decode prog_14_method_34_code 50 = .ok (.aload_n 0, 1) := dd_at dd_Mo_loop 29 rfl
theorem d_Mo_loop_51 : decode prog_14_method_34_code 51 = .ok (.getfield 31, 3) := dd_at dd_Mo_loop 30 rfl
theorem d_Mo_loop_54 : decode prog_14_method_34_code 54 = .ok (.ifCond .ne (12), 3) := dd_at dd_Mo_loop 31 rfl
theorem d_Mo_loop_57 : decode prog_14_method_34_code 57 = .ok (.aload_n 0, 1) := dd_at dd_Mo_loop 32 rfl
theorem d_Mo_loop_58 : decode prog_14_method_34_code 58 = .ok (.invokevirtual 156, 3) := dd_at dd_Mo_loop 33 rfl
theorem d_Mo_loop_61 : decode prog_14_method_34_code 61 = .ok (.bipush (83), 2) := dd_at dd_Mo_loop 34 rfl
theorem d_Mo_loop_63 : decode prog_14_method_34_code 63 = .ok (.if_icmp .eq (4), 3) := dd_at dd_Mo_loop 35 rfl
theorem d_Mo_loop_66 : decode prog_14_method_34_code 66 = .ok (.return_, 1) := dd_at dd_Mo_loop 36 rfl
theorem d_Mo_loop_67 : decode prog_14_method_34_code 67 = .ok (.aload_n 0, 1) := dd_at dd_Mo_loop 37 rfl
theorem d_Mo_loop_68 : decode prog_14_method_34_code 68 = .ok (.bipush (19), 2) := dd_at dd_Mo_loop 38 rfl
theorem d_Mo_loop_70 : decode prog_14_method_34_code 70 = .ok (.bipush (19), 2) := dd_at dd_Mo_loop 39 rfl
theorem d_Mo_loop_72 : decode prog_14_method_34_code 72 = .ok (.invokevirtual 257, 3) := dd_at dd_Mo_loop 40 rfl
theorem d_Mo_loop_75 : decode prog_14_method_34_code 75 = .ok (.pop, 1) := dd_at dd_Mo_loop 41 rfl
theorem d_Mo_loop_76 : decode prog_14_method_34_code 76 = .ok (.aload_n 0, 1) := dd_at dd_Mo_loop 42 rfl
theorem d_Mo_loop_77 : decode prog_14_method_34_code 77 = .ok (.iconst 1, 1) := dd_at dd_Mo_loop 43 rfl
theorem d_Mo_loop_78 : decode prog_14_method_34_code 78 = .ok (.iconst 1, 1) := dd_at dd_Mo_loop 44 rfl
theorem d_Mo_loop_79 : decode prog_14_method_34_code 79 = .ok (.invokevirtual 279, 3) := dd_at dd_Mo_loop 45 rfl
theorem d_Mo_loop_82 : decode prog_14_method_34_code 82 = .ok (.aload_n 0, 1) := dd_at dd_Mo_loop 46 rfl
theorem d_Mo_loop_83 : decode prog_14_method_34_code 83 = .ok (.iconst 2, 1) := dd_at dd_Mo_loop 47 rfl
theorem d_Mo_loop_84 : decode prog_14_method_34_code 84 = .ok (.aload_n 0, 1) := dd_at dd_Mo_loop 48 rfl
theorem d_Mo_loop_85 : decode prog_14_method_34_code 85 = .ok (.iconst 0, 1) := dd_at dd_Mo_loop 49 rfl
theorem d_Mo_loop_86 : decode prog_14_method_34_code 86 = .ok (.invokevirtual 286, 3) := dd_at dd_Mo_loop 50 rfl
theorem d_Mo_loop_89 : decode prog_14_method_34_code 89 = .ok (.invokevirtual 290, 3) := dd_at dd_Mo_loop 51 rfl
theorem d_Mo_loop_92 : decode prog_14_method_34_code 92 = .ok (.return_, 1) := dd_at dd_Mo_loop 52 rfl
def ld_Mo_numbers : List (Nat × Instr × Nat) := [(0, .iconst 0, 1), (1, .istore_n 1, 1), (2, .aload_n 0, 1), (3, .iconst 0, 1), (4, .aload_n 0, 1), (5, .getfield 28, 3), (8, .invokevirtual 290, 3), (11, .aload_n 0, 1), (12, .getfield 31, 3), (15, .ifCond .ne (52), 3), (18, .iload_n 1, 1), (19, .bipush (6), 2), (21, .if_icmp .ge (46), 3), (24, .aload_n 0, 1), (25, .aload_n 0, 1), (26, .bipush (45), 2), (28, .invokevirtual 160, 3), (31, .ifCond .eq (7), 3), (34, .iconst 1, 1), (35, .goto (4), 3), (38, .iconst 0, 1), (39, .invokevirtual 244, 3), (42, .aload_n 0, 1), (43, .invokevirtual 254, 3), (46, .iinc 1 (1), 3), (49, .iload_n 1, 1), (50, .bipush (6), 2), (52, .if_icmp .eq (15), 3), (55, .aload_n 0, 1), (56, .bipush (44), 2), (58, .invokevirtual 160, 3), (61, .ifCond .ne (-50), 3), (64, .goto (3), 3), (67, .aload_n 0, 1), (68, .iconst 0, 1), (69, .iload_n 1, 1), (70, .invokevirtual 279, 3), (73, .return_, 1)]
theorem dd_Mo_numbers : (ld_Mo_numbers).all (dOK prog_14_method_35_code) = true := by decide +kernel
theorem d_Mo_numbers_0 : decode prog_14_method_35_code 0 = .ok (.iconst 0, 1) := dd_at dd_Mo_numbers 0 rfl
theorem d_Mo_numbers_1 : decode prog_14_method_35_code 1 = .ok (.istore_n 1, 1) := dd_at dd_Mo_numbers 1 rfl
theorem d_Mo_numbers_2 : decode prog_14_method_35_code 2 = .ok (.aload_n 0, 1) := dd_at dd_Mo_numbers 2 rfl
theorem d_Mo_numbers_3 : decode prog_14_method_35_code 3 = .ok (.iconst 0, 1) := dd_at dd_Mo_numbers 3 rfl
theorem d_Mo_numbers_4 : decode prog_14_method_35_code 4 = .ok (.aload_n 0, 1) := dd_at dd_Mo_numbers 4 rfl
theorem d_Mo_numbers_5 : decode prog_14_method_35_code 5 = .ok (.getfield 28, 3) := dd_at dd_Mo_numbers 5 rfl
theorem d_Mo_numbers_8 : decode prog_14_method_35_code 8 = .ok (.invokevirtual 290, 3) := dd_at dd_Mo_numbers 6 rfl
theorem d_Mo_numbers_11 : decode prog_14_method_35_code 11 = .ok (.aload_n 0, 1) := dd_at dd_Mo_numbers 7 rfl
theorem d_Mo_numbers_12 : decode prog_14_method_35_code 12 = .ok (.getfield 31, 3) := dd_at dd_Mo_numbers 8 rfl
theorem d_Mo_numbers_15 : decode prog_14_method_35_code 15 = .ok (.ifCond .ne (52), 3) := dd_at dd_Mo_numbers 9 rfl
theorem d_Mo_numbers_18 : decode prog_14_method_35_code 18 = .ok (.iload_n 1, 1) := dd_at dd_Mo_numbers 10 rfl
theorem d_Mo_numbers_19 : decode prog_14_method_35_code 19 = .ok (.bipush (6), 2) := dd_at dd_Mo_numbers 11 rfl
theorem d_Mo_numbers_21 : decode prog_14_method_35_code 21 = .ok (.if_icmp .ge (46), 3) := dd_at dd_Mo_numbers 12 rfl
theorem d_Mo_numbers_24 : decode prog_14_method_35_code 24 = .ok (.aload_n 0, 1) := dd_at dd_Mo_numbers 13 rfl
theorem d_Mo_numbers_25 : decode prog_14_method_35_code 25 = .ok (.aload_n 0, 1) := dd_at dd_Mo_numbers 14 rfl
theorem d_Mo_numbers_26 : decode prog_14_method_35_code 26 = .ok (.bipush (45), 2) := dd_at dd_Mo_numbers 15 rfl
theorem d_Mo_numbers_28 : decode prog_14_method_35_code 28 = .ok (.invokevirtual 160, 3) := dd_at dd_Mo_numbers 16 rfl
theorem d_Mo_numbers_31 : decode prog_14_method_35_code 31 = .ok (.ifCond .eq (7), 3) := dd_at dd_Mo_numbers 17 rfl
theorem d_Mo_numbers_34 : decode prog_14_method_35_code 34 = .ok (.iconst 1, 1) := dd_at dd_Mo_numbers 18 rfl
theorem d_Mo_numbers_35 : decode prog_14_method_35_code 35 = .ok (.goto (4), 3) := dd_at dd_Mo_numbers 19 rfl
theorem d_Mo_numbers_38 : decode prog_14_method_35_code 38 = .ok (.iconst 0, 1) := dd_at dd_Mo_numbers 20 rfl
theorem d_Mo_numbers_39 : decode prog_14_method_35_code 39 = .ok (.invokevirtual 244, 3) := dd_at dd_Mo_numbers 21 rfl
theorem d_Mo_numbers_42 : decode prog_14_method_35_code 42 = .ok (.aload_n 0, 1) := dd_at dd_Mo_numbers 22 rfl
theorem d_Mo_numbers_43 : decode prog_14_method_35_code 43 = .ok (.invokevirtual 254, 3) := dd_at dd_Mo_numbers 23 rfl
theorem d_Mo_numbers_46 : decode prog_14_method_35_code 46 = .ok (.iinc 1 (1), 3) := dd_at dd_Mo_numbers 24 rfl
theorem d_Mo_numbers_49 : decode prog_14_method_35_code 49 = .ok (.iload_n 1, 1) := dd_at dd_Mo_numbers 25 rfl
theorem d_Mo_numbers_50 : decode prog_14_method_35_code 50 = .ok (.bipush (6), 2) := dd_at dd_Mo_numbers 26 rfl
theorem d_Mo_numbers_52 : decode prog_14_method_35_code 52 = .ok (.if_icmp .eq (15), 3) := dd_at dd_Mo_numbers 27 rfl
theorem d_Mo_numbers_55 : decode prog_14_method_35_code 55 = .ok (.aload_n 0, 1) := dd_at dd_Mo_numbers 28 rfl
theorem d_Mo_numbers_56 : decode prog_14_method_35_code 56 = .ok (.bipush (44), 2) := dd_at dd_Mo_numbers 29 rfl
theorem d_Mo_numbers_58 : decode prog_14_method_35_code 58 = .ok (.invokevirtual 160, 3) := dd_at dd_Mo_numbers 30 rfl
theorem d_Mo_numbers_61 : decode prog_14_method_35_code 61 = .ok (.ifCond .ne (-50), 3) := dd_at dd_Mo_numbers 31 rfl
theorem d_Mo_numbers_64 : decode prog_14_method_35_code 64 = .ok (.goto (3), 3) := dd_at dd_Mo_numbers 32 rfl
theorem d_Mo_numbers_67 : decode prog_14_method_35_code 67 = .ok (.aload_n 0, 1) := dd_at dd_Mo_numbers 33 rfl
theorem d_Mo_numbers_68 : decode prog_14_method_35_code 68 = .ok (.iconst 0, 1) := dd_at dd_Mo_numbers 34 rfl
theorem d_Mo_numbers_69 : decode prog_14_method_35_code 69 = .ok (.iload_n 1, 1) := dd_at dd_Mo_numbers 35 rfl
theorem d_Mo_numbers_70 : decode prog_14_method_35_code 70 = .ok (.invokevirtual 279, 3) := dd_at dd_Mo_numbers 36 rfl
theorem d_Mo_numbers_73 : decode prog_14_method_35_code 73 = .ok (.return_, 1) := dd_at dd_Mo_numbers 37 rfl
def ld_Mo_oneToSix : List (Nat × Instr × Nat) := [(0, .aload_n 0, 1), (1, .invokevirtual 156, 3), (4, .istore_n 1, 1), (5, .aload_n 0, 1), (6, .getfield 31, 3), (9, .ifCond .ne (15), 3), (12, .iload_n 1, 1), (13, .bipush (49), 2), (15, .if_icmp .lt (9), 3), (18, .iload_n 1, 1), (19, .bipush (54), 2), (21, .if_icmp .le (10), 3), (24, .aload_n 0, 1), (25, .iconst 1, 1), (26, .putfield 31, 3), (29, .iconst 0, 1), (30, .ireturn, 1), (31, .aload_n 0, 1), (32, .dup, 1), (33, .getfield 22, 3), (36, .iconst 1, 1), (37, .iadd, 1), (38, .putfield 22, 3), (41, .iload_n 1, 1), (42, .bipush (48), 2), (44, .isub, 1), (45, .ireturn, 1)]
theorem dd_Mo_oneToSix : (ld_Mo_oneToSix).all (dOK prog_14_method_36_code) = true := by decide +kernel
theorem d_Mo_oneToSix_0 : decode prog_14_method_36_code 0 = .ok (.aload_n 0, 1) := dd_at dd_Mo_oneToSix 0 rfl
theorem d_Mo_oneToSix_1 : decode prog_14_method_36_code 1 = .ok (.invokevirtual 156, 3) := dd_at dd_Mo_oneToSix 1 rfl
theorem d_Mo_oneToSix_4 : decode prog_14_method_36_code 4 = .ok (.istore_n 1, 1) := dd_at dd_Mo_oneToSix 2 rfl
theorem d_Mo_oneToSix_5 : decode prog_14_method_36_code 5 = .ok (.aload_n 0, 1) := dd_at dd_Mo_oneToSix 3 rfl
theorem d_Mo_oneToSix_6 : decode prog_14_method_36_code 6 = .ok (.getfield 31, 3) := dd_at dd_Mo_oneToSix 4 rfl
theorem d_Mo_oneToSix_9 : decode prog_14_method_36_code 9 = .ok (.ifCond .ne (15), 3) := dd_at dd_Mo_oneToSix 5 rfl
theorem d_Mo_oneToSix_12 : decode prog_14_method_36_code 12 = .ok (.iload_n 1, 1) := dd_at dd_Mo_oneToSix 6 rfl
theorem d_Mo_oneToSix_13 : decode prog_14_method_36_code 13 = .ok (.bipush (49), 2) := dd_at dd_Mo_oneToSix 7 rfl
theorem d_Mo_oneToSix_15 : decode prog_14_method_36_code 15 = .ok (.if_icmp .lt (9), 3) := dd_at dd_Mo_oneToSix 8 rfl
theorem d_Mo_oneToSix_18 : decode prog_14_method_36_code 18 = .ok (.iload_n 1, 1) := dd_at dd_Mo_oneToSix 9 rfl
theorem d_Mo_oneToSix_19 : decode prog_14_method_36_code 19 = .ok (.bipush (54), 2) := dd_at dd_Mo_oneToSix 10 rfl
theorem d_Mo_oneToSix_21 : decode prog_14_method_36_code 21 = .ok (.if_icmp .le (10), 3) := dd_at dd_Mo_oneToSix 11 rfl
theorem d_Mo_oneToSix_24 : decode prog_14_method_36_code 24 = .ok (.aload_n 0, 1) := dd_at dd_Mo_oneToSix 12 rfl
theorem d_Mo_oneToSix_25 : decode prog_14_method_36_code 25 = .ok (.iconst 1, 1) := dd_at dd_Mo_oneToSix 13 rfl
theorem d_Mo_oneToSix_26 : decode prog_14_method_36_code 26 = .ok (.putfield 31, 3) := dd_at dd_Mo_oneToSix 14 rfl
theorem d_Mo_oneToSix_29 : decode prog_14_method_36_code 29 = .ok (.iconst 0, 1) := dd_at dd_Mo_oneToSix 15 rfl
theorem d_Mo_oneToSix_30 : decode prog_14_method_36_code 30 = .ok (.ireturn, 1) := dd_at dd_Mo_oneToSix 16 rfl
theorem d_Mo_oneToSix_31 : decode prog_14_method_36_code 31 = .ok (.aload_n 0, 1) := dd_at dd_Mo_oneToSix 17 rfl
theorem d_Mo_oneToSix_32 : decode prog_14_method_36_code 32 = .ok (.dup, 1) := dd_at dd_Mo_oneToSix 18 rfl
theorem d_Mo_oneToSix_33 : decode prog_14_method_36_code 33 = .ok (.getfield 22, 3) := dd_at dd_Mo_oneToSix 19 rfl
theorem d_Mo_oneToSix_36 : decode prog_14_method_36_code 36 = .ok (.iconst 1, 1) := dd_at dd_Mo_oneToSix 20 rfl
theorem d_Mo_oneToSix_37 : decode prog_14_method_36_code 37 = .ok (.iadd, 1) := dd_at dd_Mo_oneToSix 21 rfl
theorem d_Mo_oneToSix_38 : decode prog_14_method_36_code 38 = .ok (.putfield 22, 3) := dd_at dd_Mo_oneToSix 22 rfl
theorem d_Mo_oneToSix_41 : decode prog_14_method_36_code 41 = .ok (.iload_n 1, 1) := dd_at dd_Mo_oneToSix 23 rfl
theorem d_Mo_oneToSix_42 : decode prog_14_method_36_code 42 = .ok (.bipush (48), 2) := dd_at dd_Mo_oneToSix 24 rfl
theorem d_Mo_oneToSix_44 : decode prog_14_method_36_code 44 = .ok (.isub, 1) := dd_at dd_Mo_oneToSix 25 rfl
theorem d_Mo_oneToSix_45 : decode prog_14_method_36_code 45 = .ok (.ireturn, 1) := dd_at dd_Mo_oneToSix 26 rfl
def ld_Mo_dim : List (Nat × Instr × Nat) := [(0, .aload_n 0, 1), (1, .iconst 0, 1), (2, .aload_n 0, 1), (3, .invokevirtual 283, 3), (6, .invokevirtual 279, 3), (9, .aload_n 0, 1), (10, .bipush (40), 2), (12, .invokevirtual 248, 3), (15, .aload_n 0, 1), (16, .iconst 1, 1), (17, .aload_n 0, 1), (18, .invokevirtual 299, 3), (21, .invokevirtual 279, 3), (24, .aload_n 0, 1), (25, .bipush (44), 2), (27, .invokevirtual 248, 3), (30, .aload_n 0, 1), (31, .iconst 2, 1), (32, .aload_n 0, 1), (33, .invokevirtual 299, 3), (36, .invokevirtual 279, 3), (39, .aload_n 0, 1), (40, .bipush (41), 2), (42, .invokevirtual 248, 3), (45, .return_, 1)]
theorem dd_Mo_dim : (ld_Mo_dim).all (dOK prog_14_method_37_code) = true := by decide +kernel
theorem d_Mo_dim_0 : decode prog_14_method_37_code 0 = .ok (.aload_n 0, 1) := dd_at dd_Mo_dim 0 rfl
theorem d_Mo_dim_1 : decode prog_14_method_37_code 1 = .ok (.iconst 0, 1) := dd_at dd_Mo_dim 1 rfl
theorem d_Mo_dim_2 : decode prog_14_method_37_code 2 = .ok (.aload_n 0, 1) := dd_at dd_Mo_dim 2 rfl
theorem d_Mo_dim_3 : decode prog_14_method_37_code 3 = .ok (.invokevirtual 283, 3) := dd_at dd_Mo_dim 3 rfl
theorem d_Mo_dim_6 : decode prog_14_method_37_code 6 = .ok (.invokevirtual 279, 3) := dd_at dd_Mo_dim 4 rfl
theorem d_Mo_dim_9 : decode prog_14_method_37_code 9 = .ok (.aload_n 0, 1) := dd_at dd_Mo_dim 5 rfl
theorem d_Mo_dim_10 : decode prog_14_method_37_code 10 = .ok (.bipush (40), 2) := dd_at dd_Mo_dim 6 rfl
theorem d_Mo_dim_12 : decode prog_14_method_37_code 12 = .ok (.invokevirtual 248, 3) := dd_at dd_Mo_dim 7 rfl
theorem d_Mo_dim_15 : decode prog_14_method_37_code 15 = .ok (.aload_n 0, 1) := dd_at dd_Mo_dim 8 rfl
theorem d_Mo_dim_16 : decode prog_14_method_37_code 16 = .ok (.iconst 1, 1) := dd_at dd_Mo_dim 9 rfl
theorem d_Mo_dim_17 : decode prog_14_method_37_code 17 = .ok (.aload_n 0, 1) := dd_at dd_Mo_dim 10 rfl
theorem d_Mo_dim_18 : decode prog_14_method_37_code 18 = .ok (.invokevirtual 299, 3) := dd_at dd_Mo_dim 11 rfl
theorem d_Mo_dim_21 : decode prog_14_method_37_code 21 = .ok (.invokevirtual 279, 3) := dd_at dd_Mo_dim 12 rfl
theorem d_Mo_dim_24 : decode prog_14_method_37_code 24 = .ok (.aload_n 0, 1) := dd_at dd_Mo_dim 13 rfl
theorem d_Mo_dim_25 : decode prog_14_method_37_code 25 = .ok (.bipush (44), 2) := dd_at dd_Mo_dim 14 rfl
theorem d_Mo_dim_27 : decode prog_14_method_37_code 27 = .ok (.invokevirtual 248, 3) := dd_at dd_Mo_dim 15 rfl
theorem d_Mo_dim_30 : decode prog_14_method_37_code 30 = .ok (.aload_n 0, 1) := dd_at dd_Mo_dim 16 rfl
theorem d_Mo_dim_31 : decode prog_14_method_37_code 31 = .ok (.iconst 2, 1) := dd_at dd_Mo_dim 17 rfl
theorem d_Mo_dim_32 : decode prog_14_method_37_code 32 = .ok (.aload_n 0, 1) := dd_at dd_Mo_dim 18 rfl
theorem d_Mo_dim_33 : decode prog_14_method_37_code 33 = .ok (.invokevirtual 299, 3) := dd_at dd_Mo_dim 19 rfl
theorem d_Mo_dim_36 : decode prog_14_method_37_code 36 = .ok (.invokevirtual 279, 3) := dd_at dd_Mo_dim 20 rfl
theorem d_Mo_dim_39 : decode prog_14_method_37_code 39 = .ok (.aload_n 0, 1) := dd_at dd_Mo_dim 21 rfl
theorem d_Mo_dim_40 : decode prog_14_method_37_code 40 = .ok (.bipush (41), 2) := dd_at dd_Mo_dim 22 rfl
theorem d_Mo_dim_42 : decode prog_14_method_37_code 42 = .ok (.invokevirtual 248, 3) := dd_at dd_Mo_dim 23 rfl
theorem d_Mo_dim_45 : decode prog_14_method_37_code 45 = .ok (.return_, 1) := dd_at dd_Mo_dim 24 rfl
def ld_Mo_def : List (Nat × Instr × Nat) := [(0, .aload_n 0, 1), (1, .bipush (27), 2), (3, .bipush (27), 2), (5, .invokevirtual 257, 3), (8, .pop, 1), (9, .aload_n 0, 1), (10, .invokevirtual 156, 3), (13, .istore_n 1, 1), (14, .iload_n 1, 1), (15, .bipush (65), 2), (17, .if_icmp .lt (9), 3), (20, .iload_n 1, 1), (21, .bipush (67), 2), (23, .if_icmp .le (11), 3), (26, .aload_n 0, 1), (27, .iconst 1, 1), (28, .putfield 31, 3), (31, .goto (20), 3), (34, .aload_n 0, 1), (35, .getfield 31, 3), (38, .ifCond .ne (13), 3), (41, .aload_n 0, 1), (42, .dup, 1), (43, .getfield 22, 3), (46, .iconst 1, 1), (47, .iadd, 1), (48, .putfield 22, 3), (51, .aload_n 0, 1), (52, .iconst 0, 1), (53, .iload_n 1, 1), (54, .bipush (65), 2), (56, .isub, 1), (57, .invokevirtual 279, 3), (60, .aload_n 0, 1), (61, .bipush (40), 2), (63, .invokevirtual 248, 3), (66, .aload_n 0, 1), (67, .iconst 1, 1), (68, .aload_n 0, 1), (69, .invokevirtual 261, 3), (72, .invokevirtual 279, 3), (75, .aload_n 0, 1), (76, .bipush (41), 2), (78, .invokevirtual 248, 3), (81, .aload_n 0, 1), (82, .bipush (61), 2), (84, .invokevirtual 248, 3), (87, .aload_n 0, 1), (88, .iconst 0, 1), (89, .aload_n 0, 1), (90, .iconst 0, 1), (91, .invokevirtual 286, 3), (94, .invokevirtual 290, 3), (97, .return_, 1)]
theorem dd_Mo_def : (ld_Mo_def).all (dOK prog_14_method_38_code) = true := by decide +kernel
theorem d_Mo_def_0 : decode prog_14_method_38_code 0 = .ok (.aload_n 0, 1) := dd_at dd_Mo_def 0 rfl
theorem d_Mo_def_1 : decode prog_14_method_38_code 1 = .ok (.bipush (27), 2) := dd_at dd_Mo_def 1 rfl
theorem d_Mo_def_3 : decode prog_14_method_38_code 3 = .ok (.bipush (27), 2) := dd_at dd_Mo_def 2 rfl
theorem d_Mo_def_5 : decode prog_14_method_38_code 5 = .ok (.invokevirtual 257, 3) := dd_at dd_Mo_def 3 rfl
theorem d_Mo_def_8 : decode prog_14_method_38_code 8 = .ok (.pop, 1) := dd_at dd_Mo_def 4 rfl
theorem d_Mo_def_9 : decode prog_14_method_38_code 9 = .ok (.aload_n 0, 1) := dd_at dd_Mo_def 5 rfl
theorem d_Mo_def_10 : decode prog_14_method_38_code 10 = .ok (.invokevirtual 156, 3) := dd_at dd_Mo_def 6 rfl
theorem d_Mo_def_13 : decode prog_14_method_38_code 13 = .ok (.istore_n 1, 1) := dd_at dd_Mo_def 7 rfl
theorem d_Mo_def_14 : decode prog_14_method_38_code 14 = .ok (.iload_n 1, 1) := dd_at dd_Mo_def 8 rfl
theorem d_Mo_def_15 : decode prog_14_method_38_code 15 = .ok (.bipush (65), 2) := dd_at dd_Mo_def 9 rfl
theorem d_Mo_def_17 : decode prog_14_method_38_code 17 = .ok (.if_icmp .lt (9), 3) := dd_at dd_Mo_def 10 rfl
theorem d_Mo_def_20 : decode prog_14_method_38_code 20 = .ok (.iload_n 1, 1) := dd_at dd_Mo_def 11 rfl
theorem d_Mo_def_21 : decode prog_14_method_38_code 21 = .ok (.bipush (67), 2) := dd_at dd_Mo_def 12 rfl
theorem d_Mo_def_23 : decode prog_14_method_38_code 23 = .ok (.if_icmp .le (11), 3) := dd_at dd_Mo_def 13 rfl
theorem d_Mo_def_26 : decode prog_14_method_38_code 26 = .ok (.aload_n 0, 1) := dd_at dd_Mo_def 14 rfl
theorem d_Mo_def_27 : decode prog_14_method_38_code 27 = .ok (.iconst 1, 1) := dd_at dd_Mo_def 15 rfl
theorem d_Mo_def_28 : decode prog_14_method_38_code 28 = .ok (.putfield 31, 3) := dd_at dd_Mo_def 16 rfl
theorem d_Mo_def_31 : decode prog_14_method_38_code 31 = .ok (.goto (20), 3) := dd_at dd_Mo_def 17 rfl
theorem d_Mo_def_34 : decode prog_14_method_38_code 34 = .ok (.aload_n 0, 1) := dd_at dd_Mo_def 18 rfl
theorem d_Mo_def_35 : decode prog_14_method_38_code 35 = .ok (.getfield 31, 3) := dd_at dd_Mo_def 19 rfl
theorem d_Mo_def_38 : decode prog_14_method_38_code 38 = .ok (.ifCond .ne (13), 3) := dd_at dd_Mo_def 20 rfl
theorem d_Mo_def_41 : decode prog_14_method_38_code 41 = .ok (.aload_n 0, 1) := dd_at dd_Mo_def 21 rfl
theorem d_Mo_def_42 : decode prog_14_method_38_code 42 = .ok (.dup, 1) := dd_at dd_Mo_def 22 rfl
theorem d_Mo_def_43 : decode prog_14_method_38_code 43 = .ok (.getfield 22, 3) := dd_at dd_Mo_def 23 rfl
theorem d_Mo_def_46 : decode prog_14_method_38_code 46 = .ok (.iconst 1, 1) := dd_at dd_Mo_def 24 rfl
theorem d_Mo_def_47 : decode prog_14_method_38_code 47 = .ok (.iadd, 1) := dd_at dd_Mo_def 25 rfl
theorem d_Mo_def_48 : decode prog_14_method_38_code 48 = .ok (.putfield 22, 3) := dd_at dd_Mo_def 26 rfl
theorem d_Mo_def_51 : decode prog_14_method_38_code 51 = .ok (.aload_n 0, 1) := dd_at dd_Mo_def 27 rfl
theorem d_Mo_def_52 : decode prog_14_method_38_code 52 = .ok (.iconst 0, 1) := dd_at dd_Mo_def 28 rfl
theorem d_Mo_def_53 : decode prog_14_method_38_code 53 = .ok (.iload_n 1, 1) := dd_at dd_Mo_def 29 rfl
theorem d_Mo_def_54 : decode prog_14_method_38_code 54 = .ok (.bipush (65), 2) := dd_at dd_Mo_def 30 rfl
theorem d_Mo_def_56 : decode prog_14_method_38_code 56 = .ok (.isub, 1) := dd_at dd_Mo_def 31 rfl
theorem d_Mo_def_57 : decode prog_14_method_38_code 57 = .ok (.invokevirtual 279, 3) := dd_at dd_Mo_def 32 rfl
theorem d_Mo_def_60 : decode prog_14_method_38_code 60 = .ok (.aload_n 0, 1) := dd_at dd_Mo_def 33 rfl
theorem d_Mo_def_61 : decode prog_14_method_38_code 61 = .ok (.bipush (40), 2) := dd_at dd_Mo_def 34 rfl
theorem d_Mo_def_63 : decode prog_14_method_38_code 63 = .ok (.invokevirtual 248, 3) := dd_at dd_Mo_def 35 rfl
theorem d_Mo_def_66 : decode prog_14_method_38_code 66 = .ok (.aload_n 0, 1) := dd_at dd_Mo_def 36 rfl
theorem d_Mo_def_67 : decode prog_14_method_38_code 67 = .ok (.iconst 1, 1) := dd_at dd_Mo_def 37 rfl
theorem d_Mo_def_68 : decode prog_14_method_38_code 68 = .ok (.aload_n 0, 1) := dd_at dd_Mo_def 38 rfl
theorem d_Mo_def_69 : decode prog_14_method_38_code 69 = .ok (.invokevirtual 261, 3) := dd_at dd_Mo_def 39 rfl
theorem d_Mo_def_72 : decode prog_14_method_38_code 72 = .ok (.invokevirtual 279, 3) := dd_at dd_Mo_def 40 rfl
theorem d_Mo_def_75 : decode prog_14_method_38_code 75 = .ok (.aload_n 0, 1) := dd_at dd_Mo_def 41 rfl
theorem d_Mo_def_76 : decode prog_14_method_38_code 76 = .ok (.bipush (41), 2) := dd_at dd_Mo_def 42 rfl
theorem d_Mo_def_78 : decode prog_14_method_38_code 78 = .ok (.invokevirtual 248, 3) := dd_at dd_Mo_def 43 rfl
theorem d_Mo_def_81 : decode prog_14_method_38_code 81 = .ok (.aload_n 0, 1) := dd_at dd_Mo_def 44 rfl
theorem d_Mo_def_82 : decode prog_14_method_38_code 82 = .ok (.bipush (61), 2) := dd_at dd_Mo_def 45 rfl
theorem d_Mo_def_84 : decode prog_14_method_38_code 84 = .ok (.invokevirtual 248, 3) := dd_at dd_Mo_def 46 rfl
theorem d_Mo_def_87 : decode prog_14_method_38_code 87 = .ok (.aload_n 0, 1) := dd_at dd_Mo_def 47 rfl
theorem d_Mo_def_88 : decode prog_14_method_38_code 88 = .ok (.iconst 0, 1) := dd_at dd_Mo_def 48 rfl
theorem d_Mo_def_89 : decode prog_14_method_38_code 89 = .ok (.aload_n 0, 1) := dd_at dd_Mo_def 49 rfl
theorem d_Mo_def_90 : decode prog_14_method_38_code 90 = .ok (.iconst 0, 1) := dd_at dd_Mo_def 50 rfl
theorem d_Mo_def_91 : decode prog_14_method_38_code 91 = .ok (.invokevirtual 286, 3) := dd_at dd_Mo_def 51 rfl
theorem d_Mo_def_94 : decode prog_14_method_38_code 94 = .ok (.invokevirtual 290, 3) := dd_at dd_Mo_def 52 rfl
theorem d_Mo_def_97 : decode prog_14_method_38_code 97 = .ok (.return_, 1) := dd_at dd_Mo_def 53 rfl
def ld_Mo_mat : List (Nat × Instr × Nat) := [(0, .aload_n 0, 1), (1, .iconst 0, 1), (2, .aload_n 0, 1), (3, .invokevirtual 283, 3), (6, .invokevirtual 279, 3), (9, .aload_n 0, 1), (10, .bipush (61), 2), (12, .invokevirtual 248, 3), (15, .aload_n 0, 1), (16, .invokevirtual 156, 3), (19, .istore_n 1, 1), (20, .aload_n 0, 1), (21, .getfield 31, 3), (24, .ifCond .eq (4), 3), (27, .return_, 1), (28, .iload_n 1, 1), (29, .bipush (40), 2), (31, .if_icmp .ne (45), 3), (34, .aload_n 0, 1), (35, .invokevirtual 267, 3), (38, .aload_n 0, 1), (39, .iconst 0, 1), (40, .aload_n 0, 1), (41, .iconst 0, 1), (42, .invokevirtual 286, 3), (45, .invokevirtual 290, 3), (48, .aload_n 0, 1), (49, .invokevirtual 293, 3), (52, .aload_n 0, 1), (53, .bipush (42), 2), (55, .invokevirtual 248, 3), (58, .aload_n 0, 1), (59, .iconst 1, 1), (60, .iconst 4, 1), (61, .invokevirtual 279, 3), (64, .aload_n 0, 1), (65, .iconst 2, 1), (66, .aload_n 0, 1), (67, .invokevirtual 283, 3), (70, .invokevirtual 279, 3), (73, .goto (142), 3), (76, .aload_n 0, 1), (77, .iload_n 1, 1), (78, .invokevirtual 241, 3), (81, .ifCond .eq (84), 3), (84, .aload_n 0, 1), (85, .iconst 2, 1), (86, .aload_n 0, 1), (87, .invokevirtual 283, 3), (90, .invokevirtual 279, 3), (93, .aload_n 0, 1), (94, .iconst 1, 1), (95, .aload_n 0, 1), (96, .bipush (43), 2), (98, .invokevirtual 160, 3), (101, .ifCond .eq (8), 3), (104, .bipush (6), 2), (106, .goto (32), 3), (109, .aload_n 0, 1), (110, .bipush (45), 2), (112, .invokevirtual 160, 3), (115, .ifCond .eq (8), 3), (118, .bipush (7), 2), (120, .goto (18), 3), (123, .aload_n 0, 1), (124, .bipush (42), 2), (126, .invokevirtual 160, 3), (129, .ifCond .eq (8), 3), (132, .bipush (8), 2), (134, .goto (4), 3), (137, .iconst 5, 1), (138, .invokevirtual 279, 3), (141, .aload_n 0, 1), (142, .getfield 49, 3), (145, .sipush (193), 3), (148, .iaload, 1), (149, .iconst 5, 1), (150, .if_icmp .le (65), 3), (153, .aload_n 0, 1), (154, .iconst 3, 1), (155, .aload_n 0, 1), (156, .invokevirtual 283, 3), (159, .invokevirtual 279, 3), (162, .goto (53), 3), (165, .aload_n 0, 1), (166, .iconst 1, 1), (167, .aload_n 0, 1), (168, .bipush (20), 2), (170, .bipush (23), 2), (172, .invokevirtual 257, 3), (175, .bipush (20), 2), (177, .isub, 1), (178, .invokevirtual 279, 3), (181, .aload_n 0, 1), (182, .getfield 49, 3), (185, .sipush (193), 3), (188, .iaload, 1), (189, .iconst 3, 1), (190, .if_icmp .eq (4), 3), (193, .return_, 1), (194, .aload_n 0, 1), (195, .bipush (40), 2), (197, .invokevirtual 248, 3), (200, .aload_n 0, 1), (201, .iconst 2, 1), (202, .aload_n 0, 1), (203, .invokevirtual 283, 3), (206, .invokevirtual 279, 3), (209, .aload_n 0, 1), (210, .bipush (41), 2), (212, .invokevirtual 248, 3), (215, .return_, 1)]
theorem dd_Mo_mat : (ld_Mo_mat).all (dOK prog_14_method_39_code) = true := by decide +kernel
theorem d_Mo_mat_0 : decode prog_14_method_39_code 0 = .ok (.aload_n 0, 1) := dd_at dd_Mo_mat 0 rfl
theorem d_Mo_mat_1 : decode prog_14_method_39_code 1 = .ok (.iconst 0, 1) := dd_at dd_Mo_mat 1 rfl
theorem d_Mo_mat_2 : decode prog_14_method_39_code 2 = .ok (.aload_n 0, 1) := dd_at dd_Mo_mat 2 rfl
theorem d_Mo_mat_3 : decode prog_14_method_39_code 3 = .ok (.invokevirtual 283, 3) := dd_at dd_Mo_mat 3 rfl
theorem d_Mo_mat_6 : decode prog_14_method_39_code 6 = .ok (.invokevirtual 279, 3) := dd_at dd_Mo_mat 4 rfl
theorem d_Mo_mat_9 : decode prog_14_method_39_code 9 = .ok (.aload_n 0, 1) := dd_at dd_Mo_mat 5 rfl
theorem d_Mo_mat_10 : decode prog_14_method_39_code 10 = .ok (.bipush (61), 2) := dd_at dd_Mo_mat 6 rfl
theorem d_Mo_mat_12 : decode prog_14_method_39_code 12 = .ok (.invokevirtual 248, 3) := dd_at dd_Mo_mat 7 rfl
theorem d_Mo_mat_15 : decode prog_14_method_39_code 15 = .ok (.aload_n 0, 1) := dd_at dd_Mo_mat 8 rfl
theorem d_Mo_mat_16 : decode prog_14_method_39_code 16 = .ok (.invokevirtual 156, 3) := dd_at dd_Mo_mat 9 rfl
theorem d_Mo_mat_19 : decode prog_14_method_39_code 19 = .ok (.istore_n 1, 1) := dd_at dd_Mo_mat 10 rfl
theorem d_Mo_mat_20 : decode prog_14_method_39_code 20 = .ok (.aload_n 0, 1) := dd_at dd_Mo_mat 11 rfl
theorem d_Mo_mat_21 : decode prog_14_method_39_code 21 = .ok (.getfield 31, 3) := dd_at dd_Mo_mat 12 rfl
theorem d_Mo_mat_24 : decode prog_14_method_39_code 24 = .ok (.ifCond .eq (4), 3) := dd_at dd_Mo_mat 13 rfl
theorem d_Mo_mat_27 : decode prog_14_method_39_code 27 = .ok (.return_, 1) := dd_at dd_Mo_mat 14 rfl
theorem d_Mo_mat_28 : decode prog_14_method_39_code 28 = .ok (.iload_n 1, 1) := dd_at dd_Mo_mat 15 rfl
theorem d_Mo_mat_29 : decode prog_14_method_39_code 29 = .ok (.bipush (40), 2) := dd_at dd_Mo_mat 16 rfl
theorem d_Mo_mat_31 : decode prog_14_method_39_code 31 = .ok (.if_icmp .ne (45), 3) := dd_at dd_Mo_mat 17 rfl
theorem d_Mo_mat_34 : decode prog_14_method_39_code 34 = .ok (.aload_n 0, 1) := dd_at dd_Mo_mat 18 rfl
theorem d_Mo_mat_35 : decode prog_14_method_39_code 35 = .ok (.invokevirtual 267, 3) := dd_at dd_Mo_mat 19 rfl
theorem d_Mo_mat_38 : decode prog_14_method_39_code 38 = .ok (.aload_n 0, 1) := dd_at dd_Mo_mat 20 rfl
theorem d_Mo_mat_39 : decode prog_14_method_39_code 39 = .ok (.iconst 0, 1) := dd_at dd_Mo_mat 21 rfl
theorem d_Mo_mat_40 : decode prog_14_method_39_code 40 = .ok (.aload_n 0, 1) := dd_at dd_Mo_mat 22 rfl
theorem d_Mo_mat_41 : decode prog_14_method_39_code 41 = .ok (.iconst 0, 1) := dd_at dd_Mo_mat 23 rfl
theorem d_Mo_mat_42 : decode prog_14_method_39_code 42 = .ok (.invokevirtual 286, 3) := dd_at dd_Mo_mat 24 rfl
theorem d_Mo_mat_45 : decode prog_14_method_39_code 45 = .ok (.invokevirtual 290, 3) := dd_at dd_Mo_mat 25 rfl
theorem d_Mo_mat_48 : decode prog_14_method_39_code 48 = .ok (.aload_n 0, 1) := dd_at dd_Mo_mat 26 rfl
theorem d_Mo_mat_49 : decode prog_14_method_39_code 49 = .ok (.invokevirtual 293, 3) := dd_at dd_Mo_mat 27 rfl
theorem d_Mo_mat_52 : decode prog_14_method_39_code 52 = .ok (.aload_n 0, 1) := dd_at dd_Mo_mat 28 rfl
theorem d_Mo_mat_53 : decode prog_14_method_39_code 53 = .ok (.bipush (42), 2) := dd_at dd_Mo_mat 29 rfl
theorem d_Mo_mat_55 : decode prog_14_method_39_code 55 = .ok (.invokevirtual 248, 3) := dd_at dd_Mo_mat 30 rfl
theorem d_Mo_mat_58 : decode prog_14_method_39_code 58 = .ok (.aload_n 0, 1) := dd_at dd_Mo_mat 31 rfl
theorem d_Mo_mat_59 : decode prog_14_method_39_code 59 = .ok (.iconst 1, 1) := dd_at dd_Mo_mat 32 rfl
theorem d_Mo_mat_60 : decode prog_14_method_39_code 60 = .ok (.iconst 4, 1) := dd_at dd_Mo_mat 33 rfl
theorem d_Mo_mat_61 : decode prog_14_method_39_code 61 = .ok (.invokevirtual 279, 3) := dd_at dd_Mo_mat 34 rfl
theorem d_Mo_mat_64 : decode prog_14_method_39_code 64 = .ok (.aload_n 0, 1) := dd_at dd_Mo_mat 35 rfl
theorem d_Mo_mat_65 : decode prog_14_method_39_code 65 = .ok (.iconst 2, 1) := dd_at dd_Mo_mat 36 rfl
theorem d_Mo_mat_66 : decode prog_14_method_39_code 66 = .ok (.aload_n 0, 1) := dd_at dd_Mo_mat 37 rfl
theorem d_Mo_mat_67 : decode prog_14_method_39_code 67 = .ok (.invokevirtual 283, 3) := dd_at dd_Mo_mat 38 rfl
theorem d_Mo_mat_70 : decode prog_14_method_39_code 70 = .ok (.invokevirtual 279, 3) := dd_at dd_Mo_mat 39 rfl
theorem d_Mo_mat_73 : decode prog_14_method_39_code 73 = .ok (.goto (142), 3) := dd_at dd_Mo_mat 40 rfl
theorem d_Mo_mat_76 : decode prog_14_method_39_code 76 = .ok (.aload_n 0, 1) := dd_at dd_Mo_mat 41 rfl
theorem d_Mo_mat_77 : decode prog_14_method_39_code 77 = .ok (.iload_n 1, 1) := dd_at dd_Mo_mat 42 rfl
theorem d_Mo_mat_78 : decode prog_14_method_39_code 78 = .ok (.invokevirtual 241, 3) := dd_at dd_Mo_mat 43 rfl
theorem d_Mo_mat_81 : decode prog_14_method_39_code 81 = .ok (.ifCond .eq (84), 3) := dd_at dd_Mo_mat 44 rfl
theorem d_Mo_mat_84 : decode prog_14_method_39_code 84 = .ok (.aload_n 0, 1) := dd_at dd_Mo_mat 45 rfl
theorem d_Mo_mat_85 : decode prog_14_method_39_code 85 = .ok (.iconst 2, 1) := dd_at dd_Mo_mat 46 rfl
theorem d_Mo_mat_86 : decode prog_14_method_39_code 86 = .ok (.aload_n 0, 1) := dd_at dd_Mo_mat 47 rfl
theorem d_Mo_mat_87 : decode prog_14_method_39_code 87 = .ok (.invokevirtual 283, 3) := dd_at dd_Mo_mat 48 rfl
theorem d_Mo_mat_90 : decode prog_14_method_39_code 90 = .ok (.invokevirtual 279, 3) := dd_at dd_Mo_mat 49 rfl
theorem d_Mo_mat_93 : decode prog_14_method_39_code 93 = .ok (.aload_n 0, 1) := dd_at dd_Mo_mat 50 rfl
theorem d_Mo_mat_94 : decode prog_14_method_39_code 94 = .ok (.iconst 1, 1) := dd_at dd_Mo_mat 51 rfl
theorem d_Mo_mat_95 : decode prog_14_method_39_code 95 = .ok (.aload_n 0, 1) := dd_at dd_Mo_mat 52 rfl
theorem d_Mo_mat_96 : decode prog_14_method_39_code 96 = .ok (.bipush (43), 2) := dd_at dd_Mo_mat 53 rfl
theorem d_Mo_mat_98 : decode prog_14_method_39_code 98 = .ok (.invokevirtual 160, 3) := dd_at dd_Mo_mat 54 rfl
theorem d_Mo_mat_101 : decode prog_14_method_39_code 101 = .ok (.ifCond .eq (8), 3) := dd_at dd_Mo_mat 55 rfl
theorem d_Mo_mat_104 : decode prog_14_method_39_code 104 = .ok (.bipush (6), 2) := dd_at dd_Mo_mat 56 rfl
theorem d_Mo_mat_106 : decode prog_14_method_39_code 106 = .ok (.goto (32), 3) := dd_at dd_Mo_mat 57 rfl
theorem d_Mo_mat_109 : decode prog_14_method_39_code 109 = .ok (.aload_n 0, 1) := dd_at dd_Mo_mat 58 rfl
theorem d_Mo_mat_110 : decode prog_14_method_39_code 110 = .ok (.bipush (45), 2) := dd_at dd_Mo_mat 59 rfl
theorem d_Mo_mat_112 : decode prog_14_method_39_code 112 = .ok (.invokevirtual 160, 3) := dd_at dd_Mo_mat 60 rfl
theorem d_Mo_mat_115 : decode prog_14_method_39_code 115 = .ok (.ifCond .eq (8), 3) := dd_at dd_Mo_mat 61 rfl
theorem d_Mo_mat_118 : decode prog_14_method_39_code 118 = .ok (.bipush (7), 2) := dd_at dd_Mo_mat 62 rfl
theorem d_Mo_mat_120 : decode prog_14_method_39_code 120 = .ok (.goto (18), 3) := dd_at dd_Mo_mat 63 rfl
theorem d_Mo_mat_123 : decode prog_14_method_39_code 123 = .ok (.aload_n 0, 1) := dd_at dd_Mo_mat 64 rfl
theorem d_Mo_mat_124 : decode prog_14_method_39_code 124 = .ok (.bipush (42), 2) := dd_at dd_Mo_mat 65 rfl
theorem d_Mo_mat_126 : decode prog_14_method_39_code 126 = .ok (.invokevirtual 160, 3) := dd_at dd_Mo_mat 66 rfl
theorem d_Mo_mat_129 : decode prog_14_method_39_code 129 = .ok (.ifCond .eq (8), 3) := dd_at dd_Mo_mat 67 rfl
theorem d_Mo_mat_132 : decode prog_14_method_39_code 132 = .ok (.bipush (8), 2) := dd_at dd_Mo_mat 68 rfl
theorem d_Mo_mat_134 : decode prog_14_method_39_code 134 = .ok (.goto (4), 3) := dd_at dd_Mo_mat 69 rfl
theorem d_Mo_mat_137 : decode prog_14_method_39_code 137 = .ok (.iconst 5, 1) := dd_at dd_Mo_mat 70 rfl
theorem d_Mo_mat_138 : decode prog_14_method_39_code 138 = .ok (.invokevirtual 279, 3) := dd_at dd_Mo_mat 71 rfl
theorem d_Mo_mat_141 : decode prog_14_method_39_code 141 = .ok (.aload_n 0, 1) := dd_at dd_Mo_mat 72 rfl
theorem d_Mo_mat_142 : decode prog_14_method_39_code 142 = .ok (.getfield 49, 3) := dd_at dd_Mo_mat 73 rfl
theorem d_Mo_mat_145 : decode prog_14_method_39_code 145 = .ok (.sipush (193), 3) := dd_at dd_Mo_mat 74 rfl
theorem d_Mo_mat_148 : decode prog_14_method_39_code 148 = .ok (.iaload, 1) := dd_at dd_Mo_mat 75 rfl
theorem d_Mo_mat_149 : decode prog_14_method_39_code 149 = .ok (.iconst 5, 1) := dd_at dd_Mo_mat 76 rfl
theorem d_Mo_mat_150 : decode prog_14_method_39_code 150 = .ok (.if_icmp .le (65), 3) := dd_at dd_Mo_mat 77 rfl
theorem d_Mo_mat_153 : decode prog_14_method_39_code 153 = .ok (.aload_n 0, 1) := dd_at dd_Mo_mat 78 rfl
theorem d_Mo_mat_154 : decode prog_14_method_39_code 154 = .ok (.iconst 3, 1) := dd_at dd_Mo_mat 79 rfl
theorem d_Mo_mat_155 : decode prog_14_method_39_code 155 = .ok (.aload_n 0, 1) := dd_at dd_Mo_mat 80 rfl
theorem d_Mo_mat_156 : decode prog_14_method_39_code 156 = .ok (.invokevirtual 283, 3) := dd_at dd_Mo_mat 81 rfl
theorem d_Mo_mat_159 : decode prog_14_method_39_code 159 = .ok (.invokevirtual 279, 3) := dd_at dd_Mo_mat 82 rfl
theorem d_Mo_mat_162 : decode prog_14_method_39_code 162 = .ok (.goto (53), 3) := dd_at dd_Mo_mat 83 rfl
theorem d_Mo_mat_165 : decode prog_14_method_39_code 165 = .ok (.aload_n 0, 1) := dd_at dd_Mo_mat 84 rfl
theorem d_Mo_mat_166 : decode prog_14_method_39_code 166 = .ok (.iconst 1, 1) := dd_at dd_Mo_mat 85 rfl
theorem d_Mo_mat_167 : decode prog_14_method_39_code 167 = .ok (.aload_n 0, 1) := dd_at dd_Mo_mat 86 rfl
theorem d_Mo_mat_168 : decode prog_14_method_39_code 168 = .ok (.bipush (20), 2) := dd_at dd_Mo_mat 87 rfl
theorem d_Mo_mat_170 : decode prog_14_method_39_code 170 = .ok (.bipush (23), 2) := dd_at dd_Mo_mat 88 rfl
theorem d_Mo_mat_172 : decode prog_14_method_39_code 172 = .ok (.invokevirtual 257, 3) := dd_at dd_Mo_mat 89 rfl
theorem d_Mo_mat_175 : decode prog_14_method_39_code 175 = .ok (.bipush (20), 2) := dd_at dd_Mo_mat 90 rfl
theorem d_Mo_mat_177 : decode prog_14_method_39_code 177 = .ok (.isub, 1) := dd_at dd_Mo_mat 91 rfl
theorem d_Mo_mat_178 : decode prog_14_method_39_code 178 = .ok (.invokevirtual 279, 3) := dd_at dd_Mo_mat 92 rfl
theorem d_Mo_mat_181 : decode prog_14_method_39_code 181 = .ok (.aload_n 0, 1) := dd_at dd_Mo_mat 93 rfl
theorem d_Mo_mat_182 : decode prog_14_method_39_code 182 = .ok (.getfield 49, 3) := dd_at dd_Mo_mat 94 rfl
theorem d_Mo_mat_185 : decode prog_14_method_39_code 185 = .ok (.sipush (193), 3) := dd_at dd_Mo_mat 95 rfl
theorem d_Mo_mat_188 : decode prog_14_method_39_code 188 = .ok (.iaload, 1) := dd_at dd_Mo_mat 96 rfl
theorem d_Mo_mat_189 : decode prog_14_method_39_code 189 = .ok (.iconst 3, 1) := dd_at dd_Mo_mat 97 rfl
theorem d_Mo_mat_190 : decode prog_14_method_39_code 190 = .ok (.if_icmp .eq (4), 3) := dd_at dd_Mo_mat 98 rfl
theorem d_Mo_mat_193 : decode prog_14_method_39_code 193 = .ok (.return_, 1) := dd_at dd_Mo_mat 99 rfl
theorem d_Mo_mat_194 : decode prog_14_method_39_code 194 = .ok (.aload_n 0, 1) := dd_at dd_Mo_mat 100 rfl
theorem d_Mo_mat_195 : decode prog_14_method_39_code 195 = .ok (.bipush (40), 2) := dd_at dd_Mo_mat 101 rfl
theorem d_Mo_mat_197 : decode prog_14_method_39_code 197 = .ok (.invokevirtual 248, 3) := dd_at dd_Mo_mat 102 rfl
theorem d_Mo_mat_200 : decode prog_14_method_39_code 200 = .ok (.aload_n 0, 1) := dd_at dd_Mo_mat 103 rfl
theorem d_Mo_mat_201 : decode prog_14_method_39_code 201 = .ok (.iconst 2, 1) := dd_at dd_Mo_mat 104 rfl
theorem d_Mo_mat_202 : decode prog_14_method_39_code 202 = .ok (.aload_n 0, 1) := dd_at dd_Mo_mat 105 rfl
theorem d_Mo_mat_203 : decode prog_14_method_39_code 203 = .ok (.invokevirtual 283, 3) := dd_at dd_Mo_mat 106 rfl
theorem d_Mo_mat_206 : decode prog_14_method_39_code 206 = .ok (.invokevirtual 279, 3) := dd_at dd_Mo_mat 107 rfl
theorem d_Mo_mat_209 : decode prog_14_method_39_code 209 = .ok (.aload_n 0, 1) := dd_at dd_Mo_mat 108 rfl
theorem d_Mo_mat_210 : decode prog_14_method_39_code 210 = .ok (.bipush (41), 2) := dd_at dd_Mo_mat 109 rfl
theorem d_Mo_mat_212 : decode prog_14_method_39_code 212 = .ok (.invokevirtual 248, 3) := dd_at dd_Mo_mat 110 rfl
theorem d_Mo_mat_215 : decode prog_14_method_39_code 215 = .ok (.return_, 1) := dd_at dd_Mo_mat 111 rfl
def ld_Mo_statement : List (Nat × Instr × Nat) := [(0, .aload_n 0, 1), (1, .iconst 0, 1), (2, .bipush (16), 2), (4, .invokevirtual 257, 3), (7, .istore_n 1, 1), (8, .aload_n 0, 1), (9, .getfield 46, 3), (12, .bipush (24), 2), (14, .iload_n 1, 1), (15, .iastore, 1), (16, .aload_n 0, 1), (17, .getfield 31, 3), (20, .ifCond .eq (4), 3), (23, .return_, 1), (24, .iload_n 1, 1), (25, .ifCond .ne (23), 3), (28, .aload_n 0, 1), (29, .invokevirtual 302, 3), (32, .aload_n 0, 1), (33, .bipush (61), 2), (35, .invokevirtual 248, 3), (38, .aload_n 0, 1), (39, .iconst 2, 1), (40, .aload_n 0, 1), (41, .iconst 0, 1), (42, .invokevirtual 286, 3), (45, .invokevirtual 290, 3), (48, .iload_n 1, 1), (49, .iconst 1, 1), (50, .if_icmp .ne (13), 3), (53, .aload_n 0, 1), (54, .iconst 0, 1), (55, .aload_n 0, 1), (56, .iconst 0, 1), (57, .invokevirtual 286, 3), (60, .invokevirtual 290, 3), (63, .iload_n 1, 1), (64, .iconst 2, 1), (65, .if_icmp .ne (7), 3), (68, .aload_n 0, 1), (69, .invokevirtual 305, 3), (72, .iload_n 1, 1), (73, .iconst 3, 1), (74, .if_icmp .eq (8), 3), (77, .iload_n 1, 1), (78, .iconst 5, 1), (79, .if_icmp .ne (12), 3), (82, .aload_n 0, 1), (83, .iconst 0, 1), (84, .aload_n 0, 1), (85, .invokevirtual 296, 3), (88, .invokevirtual 279, 3), (91, .iload_n 1, 1), (92, .iconst 4, 1), (93, .if_icmp .ne (7), 3), (96, .aload_n 0, 1), (97, .invokevirtual 308, 3), (100, .iload_n 1, 1), (101, .bipush (7), 2), (103, .if_icmp .ne (7), 3), (106, .aload_n 0, 1), (107, .invokevirtual 311, 3), (110, .iload_n 1, 1), (111, .bipush (8), 2), (113, .if_icmp .ne (12), 3), (116, .aload_n 0, 1), (117, .iconst 0, 1), (118, .aload_n 0, 1), (119, .invokevirtual 261, 3), (122, .invokevirtual 279, 3), (125, .iload_n 1, 1), (126, .bipush (9), 2), (128, .if_icmp .ne (7), 3), (131, .aload_n 0, 1), (132, .invokevirtual 302, 3), (135, .iload_n 1, 1), (136, .bipush (10), 2), (138, .if_icmp .ne (7), 3), (141, .aload_n 0, 1), (142, .invokevirtual 314, 3), (145, .iload_n 1, 1), (146, .bipush (12), 2), (148, .if_icmp .ne (7), 3), (151, .aload_n 0, 1), (152, .invokevirtual 317, 3), (155, .iload_n 1, 1), (156, .bipush (13), 2), (158, .if_icmp .ne (7), 3), (161, .aload_n 0, 1), (162, .invokevirtual 320, 3), (165, .iload_n 1, 1), (166, .bipush (14), 2), (168, .if_icmp .ne (7), 3), (171, .aload_n 0, 1), (172, .invokevirtual 323, 3), (175, .iload_n 1, 1), (176, .bipush (15), 2), (178, .if_icmp .ne (11), 3), (181, .aload_n 0, 1), (182, .aload_n 0, 1), (183, .getfield 16, 3), (186, .putfield 22, 3), (189, .aload_n 0, 1), (190, .getfield 22, 3), (193, .aload_n 0, 1), (194, .getfield 16, 3), (197, .if_icmp .ge (8), 3), (200, .aload_n 0, 1), (201, .iconst 1, 1), (202, .putfield 31, 3), (205, .return_, 1)]
theorem dd_Mo_statement : (ld_Mo_statement).all (dOK prog_14_method_40_code) = true := by decide +kernel
theorem d_Mo_statement_0 : decode prog_14_method_40_code 0 = .ok (.aload_n 0, 1) := dd_at dd_Mo_statement 0 rfl
theorem d_Mo_statement_1 : decode prog_14_method_40_code 1 = .ok (.iconst 0, 1) := dd_at dd_Mo_statement 1 rfl
theorem d_Mo_statement_2 : decode prog_14_method_40_code 2 = .ok (.bipush (16), 2) := dd_at dd_Mo_statement 2 rfl
theorem d_Mo_statement_4 : decode prog_14_method_40_code 4 = .ok (.invokevirtual 257, 3) := dd_at dd_Mo_statement 3 rfl
theorem d_Mo_statement_7 : decode prog_14_method_40_code 7 = .ok (.istore_n 1, 1) := dd_at dd_Mo_statement 4 rfl
theorem d_Mo_statement_8 : decode prog_14_method_40_code 8 = .ok (.aload_n 0, 1) := dd_at dd_Mo_statement 5 rfl
theorem d_Mo_statement_9 : decode prog_14_method_40_code 9 = .ok (.getfield 46, 3) := dd_at dd_Mo_statement 6 rfl
theorem d_Mo_statement_12 : decode prog_14_method_40_code 12 = .ok (.bipush (24), 2) := dd_at dd_Mo_statement 7 rfl
theorem d_Mo_statement_14 : decode prog_14_method_40_code 14 = .ok (.iload_n 1, 1) := dd_at dd_Mo_statement 8 rfl
theorem d_Mo_statement_15 : decode prog_14_method_40_code 15 = .ok (.iastore, 1) := dd_at dd_Mo_statement 9 rfl
theorem d_Mo_statement_16 : decode prog_14_method_40_code 16 = .ok (.aload_n 0, 1) := dd_at dd_Mo_statement 10 rfl
theorem d_Mo_statement_17 : decode prog_14_method_40_code 17 = .ok (.getfield 31, 3) := dd_at dd_Mo_statement 11 rfl
theorem d_Mo_statement_20 : decode prog_14_method_40_code 20 = .ok (.ifCond .eq (4), 3) := dd_at dd_Mo_statement 12 rfl
theorem d_Mo_statement_23 : decode prog_14_method_40_code 23 = .ok (.return_, 1) := dd_at dd_Mo_statement 13 rfl
theorem d_Mo_statement_24 : decode prog_14_method_40_code 24 = .ok (.iload_n 1, 1) := dd_at dd_Mo_statement 14 rfl
theorem d_Mo_statement_25 : decode prog_14_method_40_code 25 = .ok (.ifCond .ne (23), 3) := dd_at dd_Mo_statement 15 rfl
theorem d_Mo_statement_28 : decode prog_14_method_40_code 28 = .ok (.aload_n 0, 1) := dd_at dd_Mo_statement 16 rfl
theorem d_Mo_statement_29 : decode prog_14_method_40_code 29 = .ok (.invokevirtual 302, 3) := dd_at dd_Mo_statement 17 rfl
theorem d_Mo_statement_32 : decode prog_14_method_40_code 32 = .ok (.aload_n 0, 1) := dd_at dd_Mo_statement 18 rfl
theorem d_Mo_statement_33 : decode prog_14_method_40_code 33 = .ok (.bipush (61), 2) := dd_at dd_Mo_statement 19 rfl
theorem d_Mo_statement_35 : decode prog_14_method_40_code 35 = .ok (.invokevirtual 248, 3) := dd_at dd_Mo_statement 20 rfl
theorem d_Mo_statement_38 : decode prog_14_method_40_code 38 = .ok (.aload_n 0, 1) := dd_at dd_Mo_statement 21 rfl
theorem d_Mo_statement_39 : decode prog_14_method_40_code 39 = .ok (.iconst 2, 1) := dd_at dd_Mo_statement 22 rfl
theorem d_Mo_statement_40 : decode prog_14_method_40_code 40 = .ok (.aload_n 0, 1) := dd_at dd_Mo_statement 23 rfl
theorem d_Mo_statement_41 : decode prog_14_method_40_code 41 = .ok (.iconst 0, 1) := dd_at dd_Mo_statement 24 rfl
theorem d_Mo_statement_42 : decode prog_14_method_40_code 42 = .ok (.invokevirtual 286, 3) := dd_at dd_Mo_statement 25 rfl
theorem d_Mo_statement_45 : decode prog_14_method_40_code 45 = .ok (.invokevirtual 290, 3) := dd_at dd_Mo_statement 26 rfl
theorem d_Mo_statement_48 : decode prog_14_method_40_code 48 = .ok (.iload_n 1, 1) := dd_at dd_Mo_statement 27 rfl
theorem d_Mo_statement_49 : decode prog_14_method_40_code 49 = .ok (.iconst 1, 1) := dd_at dd_Mo_statement 28 rfl
theorem d_Mo_statement_50 : decode prog_14_method_40_code 50 = .ok (.if_icmp .ne (13), 3) := dd_at dd_Mo_statement 29 rfl
theorem d_Mo_statement_53 : decode prog_14_method_40_code 53 = .ok (.aload_n 0, 1) := dd_at dd_Mo_statement 30 rfl
theorem d_Mo_statement_54 : decode prog_14_method_40_code 54 = .ok (.iconst 0, 1) := dd_at dd_Mo_statement 31 rfl
theorem d_Mo_statement_55 : decode prog_14_method_40_code 55 = .ok (.aload_n 0, 1) := dd_at dd_Mo_statement 32 rfl
theorem d_Mo_statement_56 : decode prog_14_method_40_code 56 = .ok (.iconst 0, 1) := dd_at dd_Mo_statement 33 rfl
theorem d_Mo_statement_57 : decode prog_14_method_40_code 57 = .ok (.invokevirtual 286, 3) := dd_at dd_Mo_statement 34 rfl
theorem d_Mo_statement_60 : decode prog_14_method_40_code 60 = .ok (.invokevirtual 290, 3) := dd_at dd_Mo_statement 35 rfl
theorem d_Mo_statement_63 : decode prog_14_method_40_code 63 = .ok (.iload_n 1, 1) := dd_at dd_Mo_statement 36 rfl
theorem d_Mo_statement_64 : decode prog_14_method_40_code 64 = .ok (.iconst 2, 1) := dd_at dd_Mo_statement 37 rfl
theorem d_Mo_statement_65 : decode prog_14_method_40_code 65 = .ok (.if_icmp .ne (7), 3) := dd_at dd_Mo_statement 38 rfl
theorem d_Mo_statement_68 : decode prog_14_method_40_code 68 = .ok (.aload_n 0, 1) := dd_at dd_Mo_statement 39 rfl
theorem d_Mo_statement_69 : decode prog_14_method_40_code 69 = .ok (.invokevirtual 305, 3) := dd_at dd_Mo_statement 40 rfl
theorem d_Mo_statement_72 : decode prog_14_method_40_code 72 = .ok (.iload_n 1, 1) := dd_at dd_Mo_statement 41 rfl
theorem d_Mo_statement_73 : decode prog_14_method_40_code 73 = .ok (.iconst 3, 1) := dd_at dd_Mo_statement 42 rfl
theorem d_Mo_statement_74 : decode prog_14_method_40_code 74 = .ok (.if_icmp .eq (8), 3) := dd_at dd_Mo_statement 43 rfl
theorem d_Mo_statement_77 : decode prog_14_method_40_code 77 = .ok (.iload_n 1, 1) := dd_at dd_Mo_statement 44 rfl
theorem d_Mo_statement_78 : decode prog_14_method_40_code 78 = .ok (.iconst 5, 1) := dd_at dd_Mo_statement 45 rfl
theorem d_Mo_statement_79 : decode prog_14_method_40_code 79 = .ok (.if_icmp .ne (12), 3) := dd_at dd_Mo_statement 46 rfl
theorem d_Mo_statement_82 : decode prog_14_method_40_code 82 = .ok (.aload_n 0, 1) := dd_at dd_Mo_statement 47 rfl
theorem d_Mo_statement_83 : decode prog_14_method_40_code 83 = .ok (.iconst 0, 1) := dd_at dd_Mo_statement 48 rfl
theorem d_Mo_statement_84 : decode prog_14_method_40_code 84 = .ok (.aload_n 0, 1) := dd_at dd_Mo_statement 49 rfl
theorem d_Mo_statement_85 : decode prog_14_method_40_code 85 = .ok (.invokevirtual 296, 3) := dd_at dd_Mo_statement 50 rfl
theorem d_Mo_statement_88 : decode prog_14_method_40_code 88 = .ok (.invokevirtual 279, 3) := dd_at dd_Mo_statement 51 rfl
theorem d_Mo_statement_91 : decode prog_14_method_40_code 91 = .ok (.iload_n 1, 1) := dd_at dd_Mo_statement 52 rfl
theorem d_Mo_statement_92 : decode prog_14_method_40_code 92 = .ok (.iconst 4, 1) := dd_at dd_Mo_statement 53 rfl
theorem d_Mo_statement_93 : decode prog_14_method_40_code 93 = .ok (.if_icmp .ne (7), 3) := dd_at dd_Mo_statement 54 rfl
theorem d_Mo_statement_96 : decode prog_14_method_40_code 96 = .ok (.aload_n 0, 1) := dd_at dd_Mo_statement 55 rfl
theorem d_Mo_statement_97 : decode prog_14_method_40_code 97 = .ok (.invokevirtual 308, 3) := dd_at dd_Mo_statement 56 rfl
theorem d_Mo_statement_100 : decode prog_14_method_40_code 100 = .ok (.iload_n 1, 1) := dd_at dd_Mo_statement 57 rfl
theorem d_Mo_statement_101 : decode prog_14_method_40_code 101 = .ok (.bipush (7), 2) := dd_at dd_Mo_statement 58 rfl
theorem d_Mo_statement_103 : decode prog_14_method_40_code 103 = .ok (.if_icmp .ne (7), 3) := dd_at dd_Mo_statement 59 rfl
theorem d_Mo_statement_106 : decode prog_14_method_40_code 106 = .ok (.aload_n 0, 1) := dd_at dd_Mo_statement 60 rfl
theorem d_Mo_statement_107 : decode prog_14_method_40_code 107 = .ok (.invokevirtual 311, 3) := dd_at dd_Mo_statement 61 rfl
theorem d_Mo_statement_110 : decode prog_14_method_40_code 110 = .ok (.iload_n 1, 1) := dd_at dd_Mo_statement 62 rfl
theorem d_Mo_statement_111 : decode prog_14_method_40_code 111 = .ok (.bipush (8), 2) := dd_at dd_Mo_statement 63 rfl
theorem d_Mo_statement_113 : decode prog_14_method_40_code 113 = .ok (.if_icmp .ne (12), 3) := dd_at dd_Mo_statement 64 rfl
theorem d_Mo_statement_116 : decode prog_14_method_40_code 116 = .ok (.aload_n 0, 1) := dd_at dd_Mo_statement 65 rfl
theorem d_Mo_statement_117 : decode prog_14_method_40_code 117 = .ok (.iconst 0, 1) := dd_at dd_Mo_statement 66 rfl
theorem d_Mo_statement_118 : decode prog_14_method_40_code 118 = .ok (.aload_n 0, 1) := dd_at dd_Mo_statement 67 rfl
theorem d_Mo_statement_119 : decode prog_14_method_40_code 119 = .ok (.invokevirtual 261, 3) := dd_at dd_Mo_statement 68 rfl
theorem d_Mo_statement_122 : decode prog_14_method_40_code 122 = .ok (.invokevirtual 279, 3) := dd_at dd_Mo_statement 69 rfl
theorem d_Mo_statement_125 : decode prog_14_method_40_code 125 = .ok (.iload_n 1, 1) := dd_at dd_Mo_statement 70 rfl
theorem d_Mo_statement_126 : decode prog_14_method_40_code 126 = .ok (.bipush (9), 2) := dd_at dd_Mo_statement 71 rfl
theorem d_Mo_statement_128 : decode prog_14_method_40_code 128 = .ok (.if_icmp .ne (7), 3) := dd_at dd_Mo_statement 72 rfl
theorem d_Mo_statement_131 : decode prog_14_method_40_code 131 = .ok (.aload_n 0, 1) := dd_at dd_Mo_statement 73 rfl
theorem d_Mo_statement_132 : decode prog_14_method_40_code 132 = .ok (.invokevirtual 302, 3) := dd_at dd_Mo_statement 74 rfl
theorem d_Mo_statement_135 : decode prog_14_method_40_code 135 = .ok (.iload_n 1, 1) := dd_at dd_Mo_statement 75 rfl
theorem d_Mo_statement_136 : decode prog_14_method_40_code 136 = .ok (.bipush (10), 2) := dd_at dd_Mo_statement 76 rfl
theorem d_Mo_statement_138 : decode prog_14_method_40_code 138 = .ok (.if_icmp .ne (7), 3) := dd_at dd_Mo_statement 77 rfl
theorem d_Mo_statement_141 : decode prog_14_method_40_code 141 = .ok (.aload_n 0, 1) := dd_at dd_Mo_statement 78 rfl
theorem d_Mo_statement_142 : decode prog_14_method_40_code 142 = .ok (.invokevirtual 314, 3) := dd_at dd_Mo_statement 79 rfl
theorem d_Mo_statement_145 : decode prog_14_method_40_code 145 = .ok (.iload_n 1, 1) := dd_at dd_Mo_statement 80 rfl
theorem d_Mo_statement_146 : decode prog_14_method_40_code 146 = .ok (.bipush (12), 2) := dd_at dd_Mo_statement 81 rfl
theorem d_Mo_statement_148 : decode prog_14_method_40_code 148 = .ok (.if_icmp .ne (7), 3) := dd_at dd_Mo_statement 82 rfl
theorem d_Mo_statement_151 : decode prog_14_method_40_code 151 = .ok (.aload_n 0, 1) := dd_at dd_Mo_statement 83 rfl
theorem d_Mo_statement_152 : decode prog_14_method_40_code 152 = .ok (.invokevirtual 317, 3) := dd_at dd_Mo_statement 84 rfl
theorem d_Mo_statement_155 : decode prog_14_method_40_code 155 = .ok (.iload_n 1, 1) := dd_at dd_Mo_statement 85 rfl
theorem d_Mo_statement_156 : decode prog_14_method_40_code 156 = .ok (.bipush (13), 2) := dd_at dd_Mo_statement 86 rfl
theorem d_Mo_statement_158 : decode prog_14_method_40_code 158 = .ok (.if_icmp .ne (7), 3) := dd_at dd_Mo_statement 87 rfl
theorem d_Mo_statement_161 : decode prog_14_method_40_code 161 = .ok (.aload_n 0, 1) := dd_at dd_Mo_statement 88 rfl
theorem d_Mo_statement_162 : decode prog_14_method_40_code 162 = .ok (.invokevirtual 320, 3) := dd_at dd_Mo_statement 89 rfl
theorem d_Mo_statement_165 : decode prog_14_method_40_code 165 = .ok (.iload_n 1, 1) := dd_at dd_Mo_statement 90 rfl
theorem d_Mo_statement_166 : decode prog_14_method_40_code 166 = .ok (.bipush (14), 2) := dd_at dd_Mo_statement 91 rfl
theorem d_Mo_statement_168 : decode prog_14_method_40_code 168 = .ok (.if_icmp .ne (7), 3) := dd_at dd_Mo_statement 92 rfl
theorem d_Mo_statement_171 : decode prog_14_method_40_code 171 = .ok (.aload_n 0, 1) := dd_at dd_Mo_statement 93 rfl
theorem d_Mo_statement_172 : decode prog_14_method_40_code 172 = .ok (.invokevirtual 323, 3) := dd_at dd_Mo_statement 94 rfl
theorem d_Mo_statement_175 : decode prog_14_method_40_code 175 = .ok (.iload_n 1, 1) := dd_at dd_Mo_statement 95 rfl
theorem d_Mo_statement_176 : decode prog_14_method_40_code 176 = .ok (.bipush (15), 2) := dd_at dd_Mo_statement 96 rfl
theorem d_Mo_statement_178 : decode prog_14_method_40_code 178 = .ok (.if_icmp .ne (11), 3) := dd_at dd_Mo_statement 97 rfl
theorem d_Mo_statement_181 : decode prog_14_method_40_code 181 = .ok (.aload_n 0, 1) := dd_at dd_Mo_statement 98 rfl
theorem d_Mo_statement_182 : decode prog_14_method_40_code 182 = .ok (.aload_n 0, 1) := dd_at dd_Mo_statement 99 rfl
theorem d_Mo_statement_183 : decode prog_14_method_40_code 183 = .ok (.getfield 16, 3) := dd_at dd_Mo_statement 100 rfl
theorem d_Mo_statement_186 : decode prog_14_method_40_code 186 = .ok (.putfield 22, 3) := dd_at dd_Mo_statement 101 rfl
theorem d_Mo_statement_189 : decode prog_14_method_40_code 189 = .ok (.aload_n 0, 1) := dd_at dd_Mo_statement 102 rfl
theorem d_Mo_statement_190 : decode prog_14_method_40_code 190 = .ok (.getfield 22, 3) := dd_at dd_Mo_statement 103 rfl
theorem d_Mo_statement_193 : decode prog_14_method_40_code 193 = .ok (.aload_n 0, 1) := dd_at dd_Mo_statement 104 rfl
theorem d_Mo_statement_194 : decode prog_14_method_40_code 194 = .ok (.getfield 16, 3) := dd_at dd_Mo_statement 105 rfl
theorem d_Mo_statement_197 : decode prog_14_method_40_code 197 = .ok (.if_icmp .ge (8), 3) := dd_at dd_Mo_statement 106 rfl
theorem d_Mo_statement_200 : decode prog_14_method_40_code 200 = .ok (.aload_n 0, 1) := dd_at dd_Mo_statement 107 rfl
theorem d_Mo_statement_201 : decode prog_14_method_40_code 201 = .ok (.iconst 1, 1) := dd_at dd_Mo_statement 108 rfl
theorem d_Mo_statement_202 : decode prog_14_method_40_code 202 = .ok (.putfield 31, 3) := dd_at dd_Mo_statement 109 rfl
theorem d_Mo_statement_205 : decode prog_14_method_40_code 205 = .ok (.return_, 1) := dd_at dd_Mo_statement 110 rfl
def ld_Mo_slotOf : List (Nat × Instr × Nat) := [(0, .iconst 0, 1), (1, .istore_n 2, 1), (2, .iload_n 2, 1), (3, .bipush (24), 2), (5, .if_icmp .ge (21), 3), (8, .aload_n 0, 1), (9, .getfield 42, 3), (12, .iload_n 2, 1), (13, .iaload, 1), (14, .iload_n 1, 1), (15, .if_icmp .ne (5), 3), (18, .iload_n 2, 1), (19, .ireturn, 1), (20, .iinc 2 (1), 3), (23, .goto (-21), 3), (26, .iconst (-1), 1), (27, .ireturn, 1)]
theorem dd_Mo_slotOf : (ld_Mo_slotOf).all (dOK prog_14_method_41_code) = true := by decide +kernel
theorem d_Mo_slotOf_0 : decode prog_14_method_41_code 0 = .ok (.iconst 0, 1) := dd_at dd_Mo_slotOf 0 rfl
theorem d_Mo_slotOf_1 : decode prog_14_method_41_code 1 = .ok (.istore_n 2, 1) := dd_at dd_Mo_slotOf 1 rfl
theorem d_Mo_slotOf_2 : decode prog_14_method_41_code 2 = .ok (.iload_n 2, 1) := dd_at dd_Mo_slotOf 2 rfl
theorem d_Mo_slotOf_3 : decode prog_14_method_41_code 3 = .ok (.bipush (24), 2) := dd_at dd_Mo_slotOf 3 rfl
theorem d_Mo_slotOf_5 : decode prog_14_method_41_code 5 = .ok (.if_icmp .ge (21), 3) := dd_at dd_Mo_slotOf 4 rfl
theorem d_Mo_slotOf_8 : decode prog_14_method_41_code 8 = .ok (.aload_n 0, 1) := dd_at dd_Mo_slotOf 5 rfl
theorem d_Mo_slotOf_9 : decode prog_14_method_41_code 9 = .ok (.getfield 42, 3) := dd_at dd_Mo_slotOf 6 rfl
theorem d_Mo_slotOf_12 : decode prog_14_method_41_code 12 = .ok (.iload_n 2, 1) := dd_at dd_Mo_slotOf 7 rfl
theorem d_Mo_slotOf_13 : decode prog_14_method_41_code 13 = .ok (.iaload, 1) := dd_at dd_Mo_slotOf 8 rfl
theorem d_Mo_slotOf_14 : decode prog_14_method_41_code 14 = .ok (.iload_n 1, 1) := dd_at dd_Mo_slotOf 9 rfl
theorem d_Mo_slotOf_15 : decode prog_14_method_41_code 15 = .ok (.if_icmp .ne (5), 3) := dd_at dd_Mo_slotOf 10 rfl
theorem d_Mo_slotOf_18 : decode prog_14_method_41_code 18 = .ok (.iload_n 2, 1) := dd_at dd_Mo_slotOf 11 rfl
theorem d_Mo_slotOf_19 : decode prog_14_method_41_code 19 = .ok (.ireturn, 1) := dd_at dd_Mo_slotOf 12 rfl
theorem d_Mo_slotOf_20 : decode prog_14_method_41_code 20 = .ok (.iinc 2 (1), 3) := dd_at dd_Mo_slotOf 13 rfl
theorem d_Mo_slotOf_23 : decode prog_14_method_41_code 23 = .ok (.goto (-21), 3) := dd_at dd_Mo_slotOf 14 rfl
theorem d_Mo_slotOf_26 : decode prog_14_method_41_code 26 = .ok (.iconst (-1), 1) := dd_at dd_Mo_slotOf 15 rfl
theorem d_Mo_slotOf_27 : decode prog_14_method_41_code 27 = .ok (.ireturn, 1) := dd_at dd_Mo_slotOf 16 rfl
def ld_Mo_copyTo : List (Nat × Instr × Nat) := [(0, .aload_n 0, 1), (1, .getfield 42, 3), (4, .iload_n 1, 1), (5, .aload_n 0, 1), (6, .getfield 42, 3), (9, .bipush (24), 2), (11, .iaload, 1), (12, .iastore, 1), (13, .aload_n 0, 1), (14, .getfield 46, 3), (17, .iload_n 1, 1), (18, .aload_n 0, 1), (19, .getfield 46, 3), (22, .bipush (24), 2), (24, .iaload, 1), (25, .iastore, 1), (26, .iconst 0, 1), (27, .istore_n 2, 1), (28, .iload_n 2, 1), (29, .bipush (8), 2), (31, .if_icmp .ge (30), 3), (34, .aload_n 0, 1), (35, .getfield 49, 3), (38, .iload_n 1, 1), (39, .bipush (8), 2), (41, .imul, 1), (42, .iload_n 2, 1), (43, .iadd, 1), (44, .aload_n 0, 1), (45, .getfield 49, 3), (48, .sipush (192), 3), (51, .iload_n 2, 1), (52, .iadd, 1), (53, .iaload, 1), (54, .iastore, 1), (55, .iinc 2 (1), 3), (58, .goto (-30), 3), (61, .iconst 0, 1), (62, .istore_n 2, 1), (63, .iload_n 2, 1), (64, .iconst 4, 1), (65, .if_icmp .ge (34), 3), (68, .aload_n 0, 1), (69, .getfield 52, 3), (72, .iload_n 1, 1), (73, .iconst 4, 1), (74, .imul, 1), (75, .iload_n 2, 1), (76, .iadd, 1), (77, .aload_n 0, 1), (78, .getfield 52, 3), (81, .bipush (96), 2), (83, .iload_n 2, 1), (84, .iadd, 1), (85, .iaload, 1), (86, .iload_n 1, 1), (87, .sipush (160), 3), (90, .imul, 1), (91, .iadd, 1), (92, .iastore, 1), (93, .iinc 2 (1), 3), (96, .goto (-33), 3), (99, .iconst 0, 1), (100, .istore_n 2, 1), (101, .iload_n 2, 1), (102, .aload_n 0, 1), (103, .getfield 28, 3), (106, .if_icmp .ge (31), 3), (109, .aload_n 0, 1), (110, .getfield 55, 3), (113, .iload_n 1, 1), (114, .sipush (160), 3), (117, .imul, 1), (118, .iload_n 2, 1), (119, .iadd, 1), (120, .aload_n 0, 1), (121, .getfield 55, 3), (124, .sipush (3840), 3), (127, .iload_n 2, 1), (128, .iadd, 1), (129, .iaload, 1), (130, .iastore, 1), (131, .iinc 2 (1), 3), (134, .goto (-33), 3), (137, .return_, 1)]
theorem dd_Mo_copyTo : (ld_Mo_copyTo).all (dOK prog_14_method_42_code) = true := by decide +kernel
theorem d_Mo_copyTo_0 : decode prog_14_method_42_code 0 = .ok (.aload_n 0, 1) := dd_at dd_Mo_copyTo 0 rfl
theorem d_Mo_copyTo_1 : decode prog_14_method_42_code 1 = .ok (.getfield 42, 3) := dd_at dd_Mo_copyTo 1 rfl
theorem d_Mo_copyTo_4 : decode prog_14_method_42_code 4 = .ok (.iload_n 1, 1) := dd_at dd_Mo_copyTo 2 rfl
theorem d_Mo_copyTo_5 : decode prog_14_method_42_code 5 = .ok (.aload_n 0, 1) := dd_at dd_Mo_copyTo 3 rfl
theorem d_Mo_copyTo_6 : decode prog_14_method_42_code 6 = .ok (.getfield 42, 3) := dd_at dd_Mo_copyTo 4 rfl
theorem d_Mo_copyTo_9 : decode prog_14_method_42_code 9 = .ok (.bipush (24), 2) := dd_at dd_Mo_copyTo 5 rfl
theorem d_Mo_copyTo_11 : decode prog_14_method_42_code 11 = .ok (.iaload, 1) := dd_at dd_Mo_copyTo 6 rfl
theorem d_Mo_copyTo_12 : decode prog_14_method_42_code 12 = .ok (.iastore, 1) := dd_at dd_Mo_copyTo 7 rfl
theorem d_Mo_copyTo_13 : decode prog_14_method_42_code 13 = .ok (.aload_n 0, 1) := dd_at dd_Mo_copyTo 8 rfl
theorem d_Mo_copyTo_14 : decode prog_14_method_42_code 14 = .ok (.getfield 46, 3) := dd_at dd_Mo_copyTo 9 rfl
theorem d_Mo_copyTo_17 : decode prog_14_method_42_code 17 = .ok (.iload_n 1, 1) := dd_at dd_Mo_copyTo 10 rfl
theorem d_Mo_copyTo_18 : decode prog_14_method_42_code 18 = .ok (.aload_n 0, 1) := dd_at dd_Mo_copyTo 11 rfl
theorem d_Mo_copyTo_19 : decode prog_14_method_42_code 19 = .ok (.getfield 46, 3) := dd_at dd_Mo_copyTo 12 rfl
theorem d_Mo_copyTo_22 : decode prog_14_method_42_code 22 = .ok (.bipush (24), 2) := dd_at dd_Mo_copyTo 13 rfl
theorem d_Mo_copyTo_24 : decode prog_14_method_42_code 24 = .ok (.iaload, 1) := dd_at dd_Mo_copyTo 14 rfl
theorem d_Mo_copyTo_25 : decode prog_14_method_42_code 25 = .ok (.iastore, 1) := dd_at dd_Mo_copyTo 15 rfl
theorem d_Mo_copyTo_26 : decode prog_14_method_42_code 26 = .ok (.iconst 0, 1) := dd_at dd_Mo_copyTo 16 rfl
theorem d_Mo_copyTo_27 : decode prog_14_method_42_code 27 = .ok (.istore_n 2, 1) := dd_at dd_Mo_copyTo 17 rfl
theorem d_Mo_copyTo_28 : decode prog_14_method_42_code 28 = .ok (.iload_n 2, 1) := dd_at dd_Mo_copyTo 18 rfl
theorem d_Mo_copyTo_29 : decode prog_14_method_42_code 29 = .ok (.bipush (8), 2) := dd_at dd_Mo_copyTo 19 rfl
theorem d_Mo_copyTo_31 : decode prog_14_method_42_code 31 = .ok (.if_icmp .ge (30), 3) := dd_at dd_Mo_copyTo 20 rfl
theorem d_Mo_copyTo_34 : decode prog_14_method_42_code 34 = .ok (.aload_n 0, 1) := dd_at dd_Mo_copyTo 21 rfl
theorem d_Mo_copyTo_35 : decode prog_14_method_42_code 35 = .ok (.getfield 49, 3) := dd_at dd_Mo_copyTo 22 rfl
theorem d_Mo_copyTo_38 : decode prog_14_method_42_code 38 = .ok (.iload_n 1, 1) := dd_at dd_Mo_copyTo 23 rfl
theorem d_Mo_copyTo_39 : decode prog_14_method_42_code 39 = .ok (.bipush (8), 2) := dd_at dd_Mo_copyTo 24 rfl
theorem d_Mo_copyTo_41 : decode prog_14_method_42_code 41 = .ok (.imul, 1) := dd_at dd_Mo_copyTo 25 rfl
theorem d_Mo_copyTo_42 : decode prog_14_method_42_code 42 = .ok (.iload_n 2, 1) := dd_at dd_Mo_copyTo 26 rfl
theorem d_Mo_copyTo_43 : decode prog_14_method_42_code 43 = .ok (.iadd, 1) := dd_at dd_Mo_copyTo 27 rfl
theorem d_Mo_copyTo_44 : decode prog_14_method_42_code 44 = .ok (.aload_n 0, 1) := dd_at dd_Mo_copyTo 28 rfl
theorem d_Mo_copyTo_45 : decode prog_14_method_42_code 45 = .ok (.getfield 49, 3) := dd_at dd_Mo_copyTo 29 rfl
theorem d_Mo_copyTo_48 : decode prog_14_method_42_code 48 = .ok (.sipush (192), 3) := dd_at dd_Mo_copyTo 30 rfl
theorem d_Mo_copyTo_51 : decode prog_14_method_42_code 51 = .ok (.iload_n 2, 1) := dd_at dd_Mo_copyTo 31 rfl
theorem d_Mo_copyTo_52 : decode prog_14_method_42_code 52 = .ok (.iadd, 1) := dd_at dd_Mo_copyTo 32 rfl
theorem d_Mo_copyTo_53 : decode prog_14_method_42_code 53 = .ok (.iaload, 1) := dd_at dd_Mo_copyTo 33 rfl
theorem d_Mo_copyTo_54 : decode prog_14_method_42_code 54 = .ok (.iastore, 1) := dd_at dd_Mo_copyTo 34 rfl
theorem d_Mo_copyTo_55 : decode prog_14_method_42_code 55 = .ok (.iinc 2 (1), 3) := dd_at dd_Mo_copyTo 35 rfl
theorem d_Mo_copyTo_58 : decode prog_14_method_42_code 58 = .ok (.goto (-30), 3) := dd_at dd_Mo_copyTo 36 rfl
theorem d_Mo_copyTo_61 : decode prog_14_method_42_code 61 = .ok (.iconst 0, 1) := dd_at dd_Mo_copyTo 37 rfl
theorem d_Mo_copyTo_62 : decode prog_14_method_42_code 62 = .ok (.istore_n 2, 1) := dd_at dd_Mo_copyTo 38 rfl
theorem d_Mo_copyTo_63 : decode prog_14_method_42_code 63 = .ok (.iload_n 2, 1) := dd_at dd_Mo_copyTo 39 rfl
theorem d_Mo_copyTo_64 : decode prog_14_method_42_code 64 = .ok (.iconst 4, 1) := dd_at dd_Mo_copyTo 40 rfl
theorem d_Mo_copyTo_65 : decode prog_14_method_42_code 65 = .ok (.if_icmp .ge (34), 3) := dd_at dd_Mo_copyTo 41 rfl
theorem d_Mo_copyTo_68 : decode prog_14_method_42_code 68 = .ok (.aload_n 0, 1) := dd_at dd_Mo_copyTo 42 rfl
theorem d_Mo_copyTo_69 : decode prog_14_method_42_code 69 = .ok (.getfield 52, 3) := dd_at dd_Mo_copyTo 43 rfl
theorem d_Mo_copyTo_72 : decode prog_14_method_42_code 72 = .ok (.iload_n 1, 1) := dd_at dd_Mo_copyTo 44 rfl
theorem d_Mo_copyTo_73 : decode prog_14_method_42_code 73 = .ok (.iconst 4, 1) := dd_at dd_Mo_copyTo 45 rfl
theorem d_Mo_copyTo_74 : decode prog_14_method_42_code 74 = .ok (.imul, 1) := dd_at dd_Mo_copyTo 46 rfl
theorem d_Mo_copyTo_75 : decode prog_14_method_42_code 75 = .ok (.iload_n 2, 1) := dd_at dd_Mo_copyTo 47 rfl
theorem d_Mo_copyTo_76 : decode prog_14_method_42_code 76 = .ok (.iadd, 1) := dd_at dd_Mo_copyTo 48 rfl
theorem d_Mo_copyTo_77 : decode prog_14_method_42_code 77 = .ok (.aload_n 0, 1) := dd_at dd_Mo_copyTo 49 rfl
theorem d_Mo_copyTo_78 : decode prog_14_method_42_code 78 = .ok (.getfield 52, 3) := dd_at dd_Mo_copyTo 50 rfl
theorem d_Mo_copyTo_81 : decode prog_14_method_42_code 81 = .ok (.bipush (96), 2) := dd_at dd_Mo_copyTo 51 rfl
theorem d_Mo_copyTo_83 : decode prog_14_method_42_code 83 = .ok (.iload_n 2, 1) := dd_at dd_Mo_copyTo 52 rfl
theorem d_Mo_copyTo_84 : decode prog_14_method_42_code 84 = .ok (.iadd, 1) := dd_at dd_Mo_copyTo 53 rfl
theorem d_Mo_copyTo_85 : decode prog_14_method_42_code 85 = .ok (.iaload, 1) := dd_at dd_Mo_copyTo 54 rfl
theorem d_Mo_copyTo_86 : decode prog_14_method_42_code 86 = .ok (.iload_n 1, 1) := dd_at dd_Mo_copyTo 55 rfl
theorem d_Mo_copyTo_87 : decode prog_14_method_42_code 87 = .ok (.sipush (160), 3) := dd_at dd_Mo_copyTo 56 rfl
theorem d_Mo_copyTo_90 : decode prog_14_method_42_code 90 = .ok (.imul, 1) := dd_at dd_Mo_copyTo 57 rfl
theorem d_Mo_copyTo_91 : decode prog_14_method_42_code 91 = .ok (.iadd, 1) := dd_at dd_Mo_copyTo 58 rfl
theorem d_Mo_copyTo_92 : decode prog_14_method_42_code 92 = .ok (.iastore, 1) := dd_at dd_Mo_copyTo 59 rfl
theorem d_Mo_copyTo_93 : decode prog_14_method_42_code 93 = .ok (.iinc 2 (1), 3) := dd_at dd_Mo_copyTo 60 rfl
theorem d_Mo_copyTo_96 : decode prog_14_method_42_code 96 = .ok (.goto (-33), 3) := dd_at dd_Mo_copyTo 61 rfl
theorem d_Mo_copyTo_99 : decode prog_14_method_42_code 99 = .ok (.iconst 0, 1) := dd_at dd_Mo_copyTo 62 rfl
theorem d_Mo_copyTo_100 : decode prog_14_method_42_code 100 = .ok (.istore_n 2, 1) := dd_at dd_Mo_copyTo 63 rfl
theorem d_Mo_copyTo_101 : decode prog_14_method_42_code 101 = .ok (.iload_n 2, 1) := dd_at dd_Mo_copyTo 64 rfl
theorem d_Mo_copyTo_102 : decode prog_14_method_42_code 102 = .ok (.aload_n 0, 1) := dd_at dd_Mo_copyTo 65 rfl
theorem d_Mo_copyTo_103 : decode prog_14_method_42_code 103 = .ok (.getfield 28, 3) := dd_at dd_Mo_copyTo 66 rfl
theorem d_Mo_copyTo_106 : decode prog_14_method_42_code 106 = .ok (.if_icmp .ge (31), 3) := dd_at dd_Mo_copyTo 67 rfl
theorem d_Mo_copyTo_109 : decode prog_14_method_42_code 109 = .ok (.aload_n 0, 1) := dd_at dd_Mo_copyTo 68 rfl
theorem d_Mo_copyTo_110 : decode prog_14_method_42_code 110 = .ok (.getfield 55, 3) := dd_at dd_Mo_copyTo 69 rfl
theorem d_Mo_copyTo_113 : decode prog_14_method_42_code 113 = .ok (.iload_n 1, 1) := dd_at dd_Mo_copyTo 70 rfl
theorem d_Mo_copyTo_114 : decode prog_14_method_42_code 114 = .ok (.sipush (160), 3) := dd_at dd_Mo_copyTo 71 rfl
theorem d_Mo_copyTo_117 : decode prog_14_method_42_code 117 = .ok (.imul, 1) := dd_at dd_Mo_copyTo 72 rfl
theorem d_Mo_copyTo_118 : decode prog_14_method_42_code 118 = .ok (.iload_n 2, 1) := dd_at dd_Mo_copyTo 73 rfl
theorem d_Mo_copyTo_119 : decode prog_14_method_42_code 119 = .ok (.iadd, 1) := dd_at dd_Mo_copyTo 74 rfl
theorem d_Mo_copyTo_120 : decode prog_14_method_42_code 120 = .ok (.aload_n 0, 1) := dd_at dd_Mo_copyTo 75 rfl
theorem d_Mo_copyTo_121 : decode prog_14_method_42_code 121 = .ok (.getfield 55, 3) := dd_at dd_Mo_copyTo 76 rfl
theorem d_Mo_copyTo_124 : decode prog_14_method_42_code 124 = .ok (.sipush (3840), 3) := dd_at dd_Mo_copyTo 77 rfl
theorem d_Mo_copyTo_127 : decode prog_14_method_42_code 127 = .ok (.iload_n 2, 1) := dd_at dd_Mo_copyTo 78 rfl
theorem d_Mo_copyTo_128 : decode prog_14_method_42_code 128 = .ok (.iadd, 1) := dd_at dd_Mo_copyTo 79 rfl
theorem d_Mo_copyTo_129 : decode prog_14_method_42_code 129 = .ok (.iaload, 1) := dd_at dd_Mo_copyTo 80 rfl
theorem d_Mo_copyTo_130 : decode prog_14_method_42_code 130 = .ok (.iastore, 1) := dd_at dd_Mo_copyTo 81 rfl
theorem d_Mo_copyTo_131 : decode prog_14_method_42_code 131 = .ok (.iinc 2 (1), 3) := dd_at dd_Mo_copyTo 82 rfl
theorem d_Mo_copyTo_134 : decode prog_14_method_42_code 134 = .ok (.goto (-33), 3) := dd_at dd_Mo_copyTo 83 rfl
theorem d_Mo_copyTo_137 : decode prog_14_method_42_code 137 = .ok (.return_, 1) := dd_at dd_Mo_copyTo 84 rfl
def ld_Mo_lines : List (Nat × Instr × Nat) := [(0, .iconst 0, 1), (1, .istore_n 1, 1), (2, .iconst 0, 1), (3, .istore_n 2, 1), (4, .iload_n 2, 1), (5, .bipush (24), 2), (7, .if_icmp .ge (21), 3), (10, .aload_n 0, 1), (11, .getfield 42, 3), (14, .iload_n 2, 1), (15, .iaload, 1), (16, .ifCond .eq (6), 3), (19, .iinc 1 (1), 3), (22, .iinc 2 (1), 3), (25, .goto (-21), 3), (28, .iload_n 1, 1), (29, .ireturn, 1)]
theorem dd_Mo_lines : (ld_Mo_lines).all (dOK prog_14_method_44_code) = true := by decide +kernel
theorem d_Mo_lines_0 : decode prog_14_method_44_code 0 = .ok (.iconst 0, 1) := dd_at dd_Mo_lines 0 rfl
theorem d_Mo_lines_1 : decode prog_14_method_44_code 1 = .ok (.istore_n 1, 1) := dd_at dd_Mo_lines 1 rfl
theorem d_Mo_lines_2 : decode prog_14_method_44_code 2 = .ok (.iconst 0, 1) := dd_at dd_Mo_lines 2 rfl
theorem d_Mo_lines_3 : decode prog_14_method_44_code 3 = .ok (.istore_n 2, 1) := dd_at dd_Mo_lines 3 rfl
theorem d_Mo_lines_4 : decode prog_14_method_44_code 4 = .ok (.iload_n 2, 1) := dd_at dd_Mo_lines 4 rfl
theorem d_Mo_lines_5 : decode prog_14_method_44_code 5 = .ok (.bipush (24), 2) := dd_at dd_Mo_lines 5 rfl
theorem d_Mo_lines_7 : decode prog_14_method_44_code 7 = .ok (.if_icmp .ge (21), 3) := dd_at dd_Mo_lines 6 rfl
theorem d_Mo_lines_10 : decode prog_14_method_44_code 10 = .ok (.aload_n 0, 1) := dd_at dd_Mo_lines 7 rfl
theorem d_Mo_lines_11 : decode prog_14_method_44_code 11 = .ok (.getfield 42, 3) := dd_at dd_Mo_lines 8 rfl
theorem d_Mo_lines_14 : decode prog_14_method_44_code 14 = .ok (.iload_n 2, 1) := dd_at dd_Mo_lines 9 rfl
theorem d_Mo_lines_15 : decode prog_14_method_44_code 15 = .ok (.iaload, 1) := dd_at dd_Mo_lines 10 rfl
theorem d_Mo_lines_16 : decode prog_14_method_44_code 16 = .ok (.ifCond .eq (6), 3) := dd_at dd_Mo_lines 11 rfl
theorem d_Mo_lines_19 : decode prog_14_method_44_code 19 = .ok (.iinc 1 (1), 3) := dd_at dd_Mo_lines 12 rfl
theorem d_Mo_lines_22 : decode prog_14_method_44_code 22 = .ok (.iinc 2 (1), 3) := dd_at dd_Mo_lines 13 rfl
theorem d_Mo_lines_25 : decode prog_14_method_44_code 25 = .ok (.goto (-21), 3) := dd_at dd_Mo_lines 14 rfl
theorem d_Mo_lines_28 : decode prog_14_method_44_code 28 = .ok (.iload_n 1, 1) := dd_at dd_Mo_lines 15 rfl
theorem d_Mo_lines_29 : decode prog_14_method_44_code 29 = .ok (.ireturn, 1) := dd_at dd_Mo_lines 16 rfl
def ld_Mo_errorAt : List (Nat × Instr × Nat) := [(0, .aload_n 0, 1), (1, .aload_n 0, 1), (2, .getfield 19, 3), (5, .invokevirtual 153, 3), (8, .ireturn, 1)]
theorem dd_Mo_errorAt : (ld_Mo_errorAt).all (dOK prog_14_method_45_code) = true := by decide +kernel
theorem d_Mo_errorAt_0 : decode prog_14_method_45_code 0 = .ok (.aload_n 0, 1) := dd_at dd_Mo_errorAt 0 rfl
theorem d_Mo_errorAt_1 : decode prog_14_method_45_code 1 = .ok (.aload_n 0, 1) := dd_at dd_Mo_errorAt 1 rfl
theorem d_Mo_errorAt_2 : decode prog_14_method_45_code 2 = .ok (.getfield 19, 3) := dd_at dd_Mo_errorAt 2 rfl
theorem d_Mo_errorAt_5 : decode prog_14_method_45_code 5 = .ok (.invokevirtual 153, 3) := dd_at dd_Mo_errorAt 3 rfl
theorem d_Mo_errorAt_8 : decode prog_14_method_45_code 8 = .ok (.ireturn, 1) := dd_at dd_Mo_errorAt 4 rfl
def ld_Mo_wipe : List (Nat × Instr × Nat) := [(0, .aload_n 0, 1), (1, .invokevirtual 332, 3), (4, .istore_n 1, 1), (5, .iconst 0, 1), (6, .istore_n 2, 1), (7, .iload_n 2, 1), (8, .bipush (24), 2), (10, .if_icmp .ge (16), 3), (13, .aload_n 0, 1), (14, .getfield 42, 3), (17, .iload_n 2, 1), (18, .iconst 0, 1), (19, .iastore, 1), (20, .iinc 2 (1), 3), (23, .goto (-16), 3), (26, .aload_n 0, 1), (27, .iload_n 1, 1), (28, .invokevirtual 153, 3), (31, .ireturn, 1)]
theorem dd_Mo_wipe : (ld_Mo_wipe).all (dOK prog_14_method_46_code) = true := by decide +kernel
theorem d_Mo_wipe_0 : decode prog_14_method_46_code 0 = .ok (.aload_n 0, 1) := dd_at dd_Mo_wipe 0 rfl
theorem d_Mo_wipe_1 : decode prog_14_method_46_code 1 = .ok (.invokevirtual 332, 3) := dd_at dd_Mo_wipe 1 rfl
theorem d_Mo_wipe_4 : decode prog_14_method_46_code 4 = .ok (.istore_n 1, 1) := dd_at dd_Mo_wipe 2 rfl
theorem d_Mo_wipe_5 : decode prog_14_method_46_code 5 = .ok (.iconst 0, 1) := dd_at dd_Mo_wipe 3 rfl
theorem d_Mo_wipe_6 : decode prog_14_method_46_code 6 = .ok (.istore_n 2, 1) := dd_at dd_Mo_wipe 4 rfl
theorem d_Mo_wipe_7 : decode prog_14_method_46_code 7 = .ok (.iload_n 2, 1) := dd_at dd_Mo_wipe 5 rfl
theorem d_Mo_wipe_8 : decode prog_14_method_46_code 8 = .ok (.bipush (24), 2) := dd_at dd_Mo_wipe 6 rfl
theorem d_Mo_wipe_10 : decode prog_14_method_46_code 10 = .ok (.if_icmp .ge (16), 3) := dd_at dd_Mo_wipe 7 rfl
theorem d_Mo_wipe_13 : decode prog_14_method_46_code 13 = .ok (.aload_n 0, 1) := dd_at dd_Mo_wipe 8 rfl
theorem d_Mo_wipe_14 : decode prog_14_method_46_code 14 = .ok (.getfield 42, 3) := dd_at dd_Mo_wipe 9 rfl
theorem d_Mo_wipe_17 : decode prog_14_method_46_code 17 = .ok (.iload_n 2, 1) := dd_at dd_Mo_wipe 10 rfl
theorem d_Mo_wipe_18 : decode prog_14_method_46_code 18 = .ok (.iconst 0, 1) := dd_at dd_Mo_wipe 11 rfl
theorem d_Mo_wipe_19 : decode prog_14_method_46_code 19 = .ok (.iastore, 1) := dd_at dd_Mo_wipe 12 rfl
theorem d_Mo_wipe_20 : decode prog_14_method_46_code 20 = .ok (.iinc 2 (1), 3) := dd_at dd_Mo_wipe 13 rfl
theorem d_Mo_wipe_23 : decode prog_14_method_46_code 23 = .ok (.goto (-16), 3) := dd_at dd_Mo_wipe 14 rfl
theorem d_Mo_wipe_26 : decode prog_14_method_46_code 26 = .ok (.aload_n 0, 1) := dd_at dd_Mo_wipe 15 rfl
theorem d_Mo_wipe_27 : decode prog_14_method_46_code 27 = .ok (.iload_n 1, 1) := dd_at dd_Mo_wipe 16 rfl
theorem d_Mo_wipe_28 : decode prog_14_method_46_code 28 = .ok (.invokevirtual 153, 3) := dd_at dd_Mo_wipe 17 rfl
theorem d_Mo_wipe_31 : decode prog_14_method_46_code 31 = .ok (.ireturn, 1) := dd_at dd_Mo_wipe 18 rfl
def ld_Mo_kept : List (Nat × Instr × Nat) := [(0, .dload_n 1, 1), (1, .ldc2_w 338, 3), (4, .dcmp .l, 1), (5, .ifCond .gt (11), 3), (8, .dload_n 1, 1), (9, .ldc2_w 340, 3), (12, .dcmp .g, 1), (13, .ifCond .ge (10), 3), (16, .aload_n 0, 1), (17, .iconst 4, 1), (18, .putfield 94, 3), (21, .dconst 0, 1), (22, .dreturn, 1), (23, .dload_n 1, 1), (24, .dreturn, 1)]
theorem dd_Mo_kept : (ld_Mo_kept).all (dOK prog_14_method_47_code) = true := by decide +kernel
theorem d_Mo_kept_0 : decode prog_14_method_47_code 0 = .ok (.dload_n 1, 1) := dd_at dd_Mo_kept 0 rfl
theorem d_Mo_kept_1 : decode prog_14_method_47_code 1 = .ok (.ldc2_w 338, 3) := dd_at dd_Mo_kept 1 rfl
theorem d_Mo_kept_4 : decode prog_14_method_47_code 4 = .ok (.dcmp .l, 1) := dd_at dd_Mo_kept 2 rfl
theorem d_Mo_kept_5 : decode prog_14_method_47_code 5 = .ok (.ifCond .gt (11), 3) := dd_at dd_Mo_kept 3 rfl
theorem d_Mo_kept_8 : decode prog_14_method_47_code 8 = .ok (.dload_n 1, 1) := dd_at dd_Mo_kept 4 rfl
theorem d_Mo_kept_9 : decode prog_14_method_47_code 9 = .ok (.ldc2_w 340, 3) := dd_at dd_Mo_kept 5 rfl
theorem d_Mo_kept_12 : decode prog_14_method_47_code 12 = .ok (.dcmp .g, 1) := dd_at dd_Mo_kept 6 rfl
theorem d_Mo_kept_13 : decode prog_14_method_47_code 13 = .ok (.ifCond .ge (10), 3) := dd_at dd_Mo_kept 7 rfl
theorem d_Mo_kept_16 : decode prog_14_method_47_code 16 = .ok (.aload_n 0, 1) := dd_at dd_Mo_kept 8 rfl
theorem d_Mo_kept_17 : decode prog_14_method_47_code 17 = .ok (.iconst 4, 1) := dd_at dd_Mo_kept 9 rfl
theorem d_Mo_kept_18 : decode prog_14_method_47_code 18 = .ok (.putfield 94, 3) := dd_at dd_Mo_kept 10 rfl
theorem d_Mo_kept_21 : decode prog_14_method_47_code 21 = .ok (.dconst 0, 1) := dd_at dd_Mo_kept 11 rfl
theorem d_Mo_kept_22 : decode prog_14_method_47_code 22 = .ok (.dreturn, 1) := dd_at dd_Mo_kept 12 rfl
theorem d_Mo_kept_23 : decode prog_14_method_47_code 23 = .ok (.dload_n 1, 1) := dd_at dd_Mo_kept 13 rfl
theorem d_Mo_kept_24 : decode prog_14_method_47_code 24 = .ok (.dreturn, 1) := dd_at dd_Mo_kept 14 rfl
def ld_Mo_divided : List (Nat × Instr × Nat) := [(0, .dload_n 3, 1), (1, .dconst 0, 1), (2, .dcmp .l, 1), (3, .ifCond .ne (10), 3), (6, .aload_n 0, 1), (7, .iconst 4, 1), (8, .putfield 94, 3), (11, .dconst 0, 1), (12, .dreturn, 1), (13, .aload_n 0, 1), (14, .dload_n 1, 1), (15, .dload_n 3, 1), (16, .ddiv, 1), (17, .invokevirtual 342, 3), (20, .dreturn, 1)]
theorem dd_Mo_divided : (ld_Mo_divided).all (dOK prog_14_method_48_code) = true := by decide +kernel
theorem d_Mo_divided_0 : decode prog_14_method_48_code 0 = .ok (.dload_n 3, 1) := dd_at dd_Mo_divided 0 rfl
theorem d_Mo_divided_1 : decode prog_14_method_48_code 1 = .ok (.dconst 0, 1) := dd_at dd_Mo_divided 1 rfl
theorem d_Mo_divided_2 : decode prog_14_method_48_code 2 = .ok (.dcmp .l, 1) := dd_at dd_Mo_divided 2 rfl
theorem d_Mo_divided_3 : decode prog_14_method_48_code 3 = .ok (.ifCond .ne (10), 3) := dd_at dd_Mo_divided 3 rfl
theorem d_Mo_divided_6 : decode prog_14_method_48_code 6 = .ok (.aload_n 0, 1) := dd_at dd_Mo_divided 4 rfl
theorem d_Mo_divided_7 : decode prog_14_method_48_code 7 = .ok (.iconst 4, 1) := dd_at dd_Mo_divided 5 rfl
theorem d_Mo_divided_8 : decode prog_14_method_48_code 8 = .ok (.putfield 94, 3) := dd_at dd_Mo_divided 6 rfl
theorem d_Mo_divided_11 : decode prog_14_method_48_code 11 = .ok (.dconst 0, 1) := dd_at dd_Mo_divided 7 rfl
theorem d_Mo_divided_12 : decode prog_14_method_48_code 12 = .ok (.dreturn, 1) := dd_at dd_Mo_divided 8 rfl
theorem d_Mo_divided_13 : decode prog_14_method_48_code 13 = .ok (.aload_n 0, 1) := dd_at dd_Mo_divided 9 rfl
theorem d_Mo_divided_14 : decode prog_14_method_48_code 14 = .ok (.dload_n 1, 1) := dd_at dd_Mo_divided 10 rfl
theorem d_Mo_divided_15 : decode prog_14_method_48_code 15 = .ok (.dload_n 3, 1) := dd_at dd_Mo_divided 11 rfl
theorem d_Mo_divided_16 : decode prog_14_method_48_code 16 = .ok (.ddiv, 1) := dd_at dd_Mo_divided 12 rfl
theorem d_Mo_divided_17 : decode prog_14_method_48_code 17 = .ok (.invokevirtual 342, 3) := dd_at dd_Mo_divided 13 rfl
theorem d_Mo_divided_20 : decode prog_14_method_48_code 20 = .ok (.dreturn, 1) := dd_at dd_Mo_divided 14 rfl
def ld_Mo_floor : List (Nat × Instr × Nat) := [(0, .dload_n 1, 1), (1, .d2l, 1), (2, .lstore_n 3, 1), (3, .lload_n 3, 1), (4, .l2d, 1), (5, .dload_n 1, 1), (6, .dcmp .l, 1), (7, .ifCond .le (9), 3), (10, .lload_n 3, 1), (11, .lconst 1, 1), (12, .lsub, 1), (13, .goto (4), 3), (16, .lload_n 3, 1), (17, .l2d, 1), (18, .dreturn, 1)]
theorem dd_Mo_floor : (ld_Mo_floor).all (dOK prog_14_method_49_code) = true := by decide +kernel
theorem d_Mo_floor_0 : decode prog_14_method_49_code 0 = .ok (.dload_n 1, 1) := dd_at dd_Mo_floor 0 rfl
theorem d_Mo_floor_1 : decode prog_14_method_49_code 1 = .ok (.d2l, 1) := dd_at dd_Mo_floor 1 rfl
theorem d_Mo_floor_2 : decode prog_14_method_49_code 2 = .ok (.lstore_n 3, 1) := dd_at dd_Mo_floor 2 rfl
theorem d_Mo_floor_3 : decode prog_14_method_49_code 3 = .ok (.lload_n 3, 1) := dd_at dd_Mo_floor 3 rfl
theorem d_Mo_floor_4 : decode prog_14_method_49_code 4 = .ok (.l2d, 1) := dd_at dd_Mo_floor 4 rfl
theorem d_Mo_floor_5 : decode prog_14_method_49_code 5 = .ok (.dload_n 1, 1) := dd_at dd_Mo_floor 5 rfl
theorem d_Mo_floor_6 : decode prog_14_method_49_code 6 = .ok (.dcmp .l, 1) := dd_at dd_Mo_floor 6 rfl
theorem d_Mo_floor_7 : decode prog_14_method_49_code 7 = .ok (.ifCond .le (9), 3) := dd_at dd_Mo_floor 7 rfl
theorem d_Mo_floor_10 : decode prog_14_method_49_code 10 = .ok (.lload_n 3, 1) := dd_at dd_Mo_floor 8 rfl
theorem d_Mo_floor_11 : decode prog_14_method_49_code 11 = .ok (.lconst 1, 1) := dd_at dd_Mo_floor 9 rfl
theorem d_Mo_floor_12 : decode prog_14_method_49_code 12 = .ok (.lsub, 1) := dd_at dd_Mo_floor 10 rfl
theorem d_Mo_floor_13 : decode prog_14_method_49_code 13 = .ok (.goto (4), 3) := dd_at dd_Mo_floor 11 rfl
theorem d_Mo_floor_16 : decode prog_14_method_49_code 16 = .ok (.lload_n 3, 1) := dd_at dd_Mo_floor 12 rfl
theorem d_Mo_floor_17 : decode prog_14_method_49_code 17 = .ok (.l2d, 1) := dd_at dd_Mo_floor 13 rfl
theorem d_Mo_floor_18 : decode prog_14_method_49_code 18 = .ok (.dreturn, 1) := dd_at dd_Mo_floor 14 rfl
def ld_Mo_power : List (Nat × Instr × Nat) := [(0, .dload_n 3, 1), (1, .ldc2_w 346, 3), (4, .dcmp .g, 1), (5, .ifCond .lt (19), 3), (8, .dload_n 3, 1), (9, .ldc2_w 348, 3), (12, .dcmp .l, 1), (13, .ifCond .gt (11), 3), (16, .dload_n 3, 1), (17, .d2l, 1), (18, .l2d, 1), (19, .dload_n 3, 1), (20, .dcmp .l, 1), (21, .ifCond .eq (10), 3), (24, .aload_n 0, 1), (25, .iconst 4, 1), (26, .putfield 94, 3), (29, .dconst 0, 1), (30, .dreturn, 1), (31, .dload_n 3, 1), (32, .d2i, 1), (33, .istore 5, 2), (35, .dconst 1, 1), (36, .dstore 6, 2), (38, .iconst 0, 1), (39, .istore 8, 2), (41, .iload 8, 2), (43, .iload 5, 2), (45, .ifCond .ge (9), 3), (48, .iload 5, 2), (50, .ineg, 1), (51, .goto (5), 3), (54, .iload 5, 2), (56, .if_icmp .ge (26), 3), (59, .aload_n 0, 1), (60, .getfield 94, 3), (63, .ifCond .ne (19), 3), (66, .aload_n 0, 1), (67, .dload 6, 2), (69, .dload_n 1, 1), (70, .dmul, 1), (71, .invokevirtual 342, 3), (74, .dstore 6, 2), (76, .iinc 8 (1), 3), (79, .goto (-38), 3), (82, .iload 5, 2), (84, .ifCond .ge (20), 3), (87, .aload_n 0, 1), (88, .getfield 94, 3), (91, .ifCond .ne (13), 3), (94, .aload_n 0, 1), (95, .dconst 1, 1), (96, .dload 6, 2), (98, .invokevirtual 350, 3), (101, .goto (5), 3), (104, .dload 6, 2), (106, .dreturn, 1)]
theorem dd_Mo_power : (ld_Mo_power).all (dOK prog_14_method_50_code) = true := by decide +kernel
theorem d_Mo_power_0 : decode prog_14_method_50_code 0 = .ok (.dload_n 3, 1) := dd_at dd_Mo_power 0 rfl
theorem d_Mo_power_1 : decode prog_14_method_50_code 1 = .ok (.ldc2_w 346, 3) := dd_at dd_Mo_power 1 rfl
theorem d_Mo_power_4 : decode prog_14_method_50_code 4 = .ok (.dcmp .g, 1) := dd_at dd_Mo_power 2 rfl
theorem d_Mo_power_5 : decode prog_14_method_50_code 5 = .ok (.ifCond .lt (19), 3) := dd_at dd_Mo_power 3 rfl
theorem d_Mo_power_8 : decode prog_14_method_50_code 8 = .ok (.dload_n 3, 1) := dd_at dd_Mo_power 4 rfl
theorem d_Mo_power_9 : decode prog_14_method_50_code 9 = .ok (.ldc2_w 348, 3) := dd_at dd_Mo_power 5 rfl
theorem d_Mo_power_12 : decode prog_14_method_50_code 12 = .ok (.dcmp .l, 1) := dd_at dd_Mo_power 6 rfl
theorem d_Mo_power_13 : decode prog_14_method_50_code 13 = .ok (.ifCond .gt (11), 3) := dd_at dd_Mo_power 7 rfl
theorem d_Mo_power_16 : decode prog_14_method_50_code 16 = .ok (.dload_n 3, 1) := dd_at dd_Mo_power 8 rfl
theorem d_Mo_power_17 : decode prog_14_method_50_code 17 = .ok (.d2l, 1) := dd_at dd_Mo_power 9 rfl
theorem d_Mo_power_18 : decode prog_14_method_50_code 18 = .ok (.l2d, 1) := dd_at dd_Mo_power 10 rfl
theorem d_Mo_power_19 : decode prog_14_method_50_code 19 = .ok (.dload_n 3, 1) := dd_at dd_Mo_power 11 rfl
theorem d_Mo_power_20 : decode prog_14_method_50_code 20 = .ok (.dcmp .l, 1) := dd_at dd_Mo_power 12 rfl
theorem d_Mo_power_21 : decode prog_14_method_50_code 21 = .ok (.ifCond .eq (10), 3) := dd_at dd_Mo_power 13 rfl
theorem d_Mo_power_24 : decode prog_14_method_50_code 24 = .ok (.aload_n 0, 1) := dd_at dd_Mo_power 14 rfl
theorem d_Mo_power_25 : decode prog_14_method_50_code 25 = .ok (.iconst 4, 1) := dd_at dd_Mo_power 15 rfl
theorem d_Mo_power_26 : decode prog_14_method_50_code 26 = .ok (.putfield 94, 3) := dd_at dd_Mo_power 16 rfl
theorem d_Mo_power_29 : decode prog_14_method_50_code 29 = .ok (.dconst 0, 1) := dd_at dd_Mo_power 17 rfl
theorem d_Mo_power_30 : decode prog_14_method_50_code 30 = .ok (.dreturn, 1) := dd_at dd_Mo_power 18 rfl
theorem d_Mo_power_31 : decode prog_14_method_50_code 31 = .ok (.dload_n 3, 1) := dd_at dd_Mo_power 19 rfl
theorem d_Mo_power_32 : decode prog_14_method_50_code 32 = .ok (.d2i, 1) := dd_at dd_Mo_power 20 rfl
theorem d_Mo_power_33 : decode prog_14_method_50_code 33 = .ok (.istore 5, 2) := dd_at dd_Mo_power 21 rfl
theorem d_Mo_power_35 : decode prog_14_method_50_code 35 = .ok (.dconst 1, 1) := dd_at dd_Mo_power 22 rfl
theorem d_Mo_power_36 : decode prog_14_method_50_code 36 = .ok (.dstore 6, 2) := dd_at dd_Mo_power 23 rfl
theorem d_Mo_power_38 : decode prog_14_method_50_code 38 = .ok (.iconst 0, 1) := dd_at dd_Mo_power 24 rfl
theorem d_Mo_power_39 : decode prog_14_method_50_code 39 = .ok (.istore 8, 2) := dd_at dd_Mo_power 25 rfl
theorem d_Mo_power_41 : decode prog_14_method_50_code 41 = .ok (.iload 8, 2) := dd_at dd_Mo_power 26 rfl
theorem d_Mo_power_43 : decode prog_14_method_50_code 43 = .ok (.iload 5, 2) := dd_at dd_Mo_power 27 rfl
theorem d_Mo_power_45 : decode prog_14_method_50_code 45 = .ok (.ifCond .ge (9), 3) := dd_at dd_Mo_power 28 rfl
theorem d_Mo_power_48 : decode prog_14_method_50_code 48 = .ok (.iload 5, 2) := dd_at dd_Mo_power 29 rfl
theorem d_Mo_power_50 : decode prog_14_method_50_code 50 = .ok (.ineg, 1) := dd_at dd_Mo_power 30 rfl
theorem d_Mo_power_51 : decode prog_14_method_50_code 51 = .ok (.goto (5), 3) := dd_at dd_Mo_power 31 rfl
theorem d_Mo_power_54 : decode prog_14_method_50_code 54 = .ok (.iload 5, 2) := dd_at dd_Mo_power 32 rfl
theorem d_Mo_power_56 : decode prog_14_method_50_code 56 = .ok (.if_icmp .ge (26), 3) := dd_at dd_Mo_power 33 rfl
theorem d_Mo_power_59 : decode prog_14_method_50_code 59 = .ok (.aload_n 0, 1) := dd_at dd_Mo_power 34 rfl
theorem d_Mo_power_60 : decode prog_14_method_50_code 60 = .ok (.getfield 94, 3) := dd_at dd_Mo_power 35 rfl
theorem d_Mo_power_63 : decode prog_14_method_50_code 63 = .ok (.ifCond .ne (19), 3) := dd_at dd_Mo_power 36 rfl
theorem d_Mo_power_66 : decode prog_14_method_50_code 66 = .ok (.aload_n 0, 1) := dd_at dd_Mo_power 37 rfl
theorem d_Mo_power_67 : decode prog_14_method_50_code 67 = .ok (.dload 6, 2) := dd_at dd_Mo_power 38 rfl
theorem d_Mo_power_69 : decode prog_14_method_50_code 69 = .ok (.dload_n 1, 1) := dd_at dd_Mo_power 39 rfl
theorem d_Mo_power_70 : decode prog_14_method_50_code 70 = .ok (.dmul, 1) := dd_at dd_Mo_power 40 rfl
theorem d_Mo_power_71 : decode prog_14_method_50_code 71 = .ok (.invokevirtual 342, 3) := dd_at dd_Mo_power 41 rfl
theorem d_Mo_power_74 : decode prog_14_method_50_code 74 = .ok (.dstore 6, 2) := dd_at dd_Mo_power 42 rfl
theorem d_Mo_power_76 : decode prog_14_method_50_code 76 = .ok (.iinc 8 (1), 3) := dd_at dd_Mo_power 43 rfl
theorem d_Mo_power_79 : decode prog_14_method_50_code 79 = .ok (.goto (-38), 3) := dd_at dd_Mo_power 44 rfl
theorem d_Mo_power_82 : decode prog_14_method_50_code 82 = .ok (.iload 5, 2) := dd_at dd_Mo_power 45 rfl
theorem d_Mo_power_84 : decode prog_14_method_50_code 84 = .ok (.ifCond .ge (20), 3) := dd_at dd_Mo_power 46 rfl
theorem d_Mo_power_87 : decode prog_14_method_50_code 87 = .ok (.aload_n 0, 1) := dd_at dd_Mo_power 47 rfl
theorem d_Mo_power_88 : decode prog_14_method_50_code 88 = .ok (.getfield 94, 3) := dd_at dd_Mo_power 48 rfl
theorem d_Mo_power_91 : decode prog_14_method_50_code 91 = .ok (.ifCond .ne (13), 3) := dd_at dd_Mo_power 49 rfl
theorem d_Mo_power_94 : decode prog_14_method_50_code 94 = .ok (.aload_n 0, 1) := dd_at dd_Mo_power 50 rfl
theorem d_Mo_power_95 : decode prog_14_method_50_code 95 = .ok (.dconst 1, 1) := dd_at dd_Mo_power 51 rfl
theorem d_Mo_power_96 : decode prog_14_method_50_code 96 = .ok (.dload 6, 2) := dd_at dd_Mo_power 52 rfl
theorem d_Mo_power_98 : decode prog_14_method_50_code 98 = .ok (.invokevirtual 350, 3) := dd_at dd_Mo_power 53 rfl
theorem d_Mo_power_101 : decode prog_14_method_50_code 101 = .ok (.goto (5), 3) := dd_at dd_Mo_power 54 rfl
theorem d_Mo_power_104 : decode prog_14_method_50_code 104 = .ok (.dload 6, 2) := dd_at dd_Mo_power 55 rfl
theorem d_Mo_power_106 : decode prog_14_method_50_code 106 = .ok (.dreturn, 1) := dd_at dd_Mo_power 56 rfl
def ld_Mo_two : List (Nat × Instr × Nat) := [(0, .iload_n 1, 1), (1, .iconst 3, 1), (2, .if_icmp .ne (12), 3), (5, .aload_n 0, 1), (6, .dload_n 2, 1), (7, .dload 4, 2), (9, .dadd, 1), (10, .invokevirtual 342, 3), (13, .dreturn, 1), (14, .iload_n 1, 1), (15, .iconst 4, 1), (16, .if_icmp .ne (12), 3), (19, .aload_n 0, 1), (20, .dload_n 2, 1), (21, .dload 4, 2), (23, .dsub, 1), (24, .invokevirtual 342, 3), (27, .dreturn, 1), (28, .iload_n 1, 1), (29, .iconst 5, 1), (30, .if_icmp .ne (12), 3), (33, .aload_n 0, 1), (34, .dload_n 2, 1), (35, .dload 4, 2), (37, .dmul, 1), (38, .invokevirtual 342, 3), (41, .dreturn, 1), (42, .iload_n 1, 1), (43, .bipush (6), 2), (45, .if_icmp .ne (13), 3), (48, .aload_n 0, 1), (49, .dload_n 2, 1), (50, .dload 4, 2), (52, .invokevirtual 350, 3), (55, .goto (10), 3), (58, .aload_n 0, 1), (59, .dload_n 2, 1), (60, .dload 4, 2), (62, .invokevirtual 354, 3), (65, .dreturn, 1)]
theorem dd_Mo_two : (ld_Mo_two).all (dOK prog_14_method_51_code) = true := by decide +kernel
theorem d_Mo_two_0 : decode prog_14_method_51_code 0 = .ok (.iload_n 1, 1) := dd_at dd_Mo_two 0 rfl
theorem d_Mo_two_1 : decode prog_14_method_51_code 1 = .ok (.iconst 3, 1) := dd_at dd_Mo_two 1 rfl
theorem d_Mo_two_2 : decode prog_14_method_51_code 2 = .ok (.if_icmp .ne (12), 3) := dd_at dd_Mo_two 2 rfl
theorem d_Mo_two_5 : decode prog_14_method_51_code 5 = .ok (.aload_n 0, 1) := dd_at dd_Mo_two 3 rfl
theorem d_Mo_two_6 : decode prog_14_method_51_code 6 = .ok (.dload_n 2, 1) := dd_at dd_Mo_two 4 rfl
theorem d_Mo_two_7 : decode prog_14_method_51_code 7 = .ok (.dload 4, 2) := dd_at dd_Mo_two 5 rfl
theorem d_Mo_two_9 : decode prog_14_method_51_code 9 = .ok (.dadd, 1) := dd_at dd_Mo_two 6 rfl
theorem d_Mo_two_10 : decode prog_14_method_51_code 10 = .ok (.invokevirtual 342, 3) := dd_at dd_Mo_two 7 rfl
theorem d_Mo_two_13 : decode prog_14_method_51_code 13 = .ok (.dreturn, 1) := dd_at dd_Mo_two 8 rfl
theorem d_Mo_two_14 : decode prog_14_method_51_code 14 = .ok (.iload_n 1, 1) := dd_at dd_Mo_two 9 rfl
theorem d_Mo_two_15 : decode prog_14_method_51_code 15 = .ok (.iconst 4, 1) := dd_at dd_Mo_two 10 rfl
theorem d_Mo_two_16 : decode prog_14_method_51_code 16 = .ok (.if_icmp .ne (12), 3) := dd_at dd_Mo_two 11 rfl
theorem d_Mo_two_19 : decode prog_14_method_51_code 19 = .ok (.aload_n 0, 1) := dd_at dd_Mo_two 12 rfl
theorem d_Mo_two_20 : decode prog_14_method_51_code 20 = .ok (.dload_n 2, 1) := dd_at dd_Mo_two 13 rfl
theorem d_Mo_two_21 : decode prog_14_method_51_code 21 = .ok (.dload 4, 2) := dd_at dd_Mo_two 14 rfl
theorem d_Mo_two_23 : decode prog_14_method_51_code 23 = .ok (.dsub, 1) := dd_at dd_Mo_two 15 rfl
theorem d_Mo_two_24 : decode prog_14_method_51_code 24 = .ok (.invokevirtual 342, 3) := dd_at dd_Mo_two 16 rfl
theorem d_Mo_two_27 : decode prog_14_method_51_code 27 = .ok (.dreturn, 1) := dd_at dd_Mo_two 17 rfl
theorem d_Mo_two_28 : decode prog_14_method_51_code 28 = .ok (.iload_n 1, 1) := dd_at dd_Mo_two 18 rfl
theorem d_Mo_two_29 : decode prog_14_method_51_code 29 = .ok (.iconst 5, 1) := dd_at dd_Mo_two 19 rfl
theorem d_Mo_two_30 : decode prog_14_method_51_code 30 = .ok (.if_icmp .ne (12), 3) := dd_at dd_Mo_two 20 rfl
theorem d_Mo_two_33 : decode prog_14_method_51_code 33 = .ok (.aload_n 0, 1) := dd_at dd_Mo_two 21 rfl
theorem d_Mo_two_34 : decode prog_14_method_51_code 34 = .ok (.dload_n 2, 1) := dd_at dd_Mo_two 22 rfl
theorem d_Mo_two_35 : decode prog_14_method_51_code 35 = .ok (.dload 4, 2) := dd_at dd_Mo_two 23 rfl
theorem d_Mo_two_37 : decode prog_14_method_51_code 37 = .ok (.dmul, 1) := dd_at dd_Mo_two 24 rfl
theorem d_Mo_two_38 : decode prog_14_method_51_code 38 = .ok (.invokevirtual 342, 3) := dd_at dd_Mo_two 25 rfl
theorem d_Mo_two_41 : decode prog_14_method_51_code 41 = .ok (.dreturn, 1) := dd_at dd_Mo_two 26 rfl
theorem d_Mo_two_42 : decode prog_14_method_51_code 42 = .ok (.iload_n 1, 1) := dd_at dd_Mo_two 27 rfl
theorem d_Mo_two_43 : decode prog_14_method_51_code 43 = .ok (.bipush (6), 2) := dd_at dd_Mo_two 28 rfl
theorem d_Mo_two_45 : decode prog_14_method_51_code 45 = .ok (.if_icmp .ne (13), 3) := dd_at dd_Mo_two 29 rfl
theorem d_Mo_two_48 : decode prog_14_method_51_code 48 = .ok (.aload_n 0, 1) := dd_at dd_Mo_two 30 rfl
theorem d_Mo_two_49 : decode prog_14_method_51_code 49 = .ok (.dload_n 2, 1) := dd_at dd_Mo_two 31 rfl
theorem d_Mo_two_50 : decode prog_14_method_51_code 50 = .ok (.dload 4, 2) := dd_at dd_Mo_two 32 rfl
theorem d_Mo_two_52 : decode prog_14_method_51_code 52 = .ok (.invokevirtual 350, 3) := dd_at dd_Mo_two 33 rfl
theorem d_Mo_two_55 : decode prog_14_method_51_code 55 = .ok (.goto (10), 3) := dd_at dd_Mo_two 34 rfl
theorem d_Mo_two_58 : decode prog_14_method_51_code 58 = .ok (.aload_n 0, 1) := dd_at dd_Mo_two 35 rfl
theorem d_Mo_two_59 : decode prog_14_method_51_code 59 = .ok (.dload_n 2, 1) := dd_at dd_Mo_two 36 rfl
theorem d_Mo_two_60 : decode prog_14_method_51_code 60 = .ok (.dload 4, 2) := dd_at dd_Mo_two 37 rfl
theorem d_Mo_two_62 : decode prog_14_method_51_code 62 = .ok (.invokevirtual 354, 3) := dd_at dd_Mo_two 38 rfl
theorem d_Mo_two_65 : decode prog_14_method_51_code 65 = .ok (.dreturn, 1) := dd_at dd_Mo_two 39 rfl
def ld_Mo_one : List (Nat × Instr × Nat) := [(0, .iload_n 1, 1), (1, .bipush (8), 2), (3, .if_icmp .ne (6), 3), (6, .dload_n 2, 1), (7, .dneg, 1), (8, .dreturn, 1), (9, .iload_n 1, 1), (10, .bipush (9), 2), (12, .if_icmp .ne (16), 3), (15, .dload_n 2, 1), (16, .dconst 0, 1), (17, .dcmp .g, 1), (18, .ifCond .ge (8), 3), (21, .dload_n 2, 1), (22, .dneg, 1), (23, .goto (4), 3), (26, .dload_n 2, 1), (27, .dreturn, 1), (28, .iload_n 1, 1), (29, .bipush (10), 2), (31, .if_icmp .ne (9), 3), (34, .aload_n 0, 1), (35, .dload_n 2, 1), (36, .invokevirtual 357, 3), (39, .dreturn, 1), (40, .dload_n 2, 1), (41, .dconst 0, 1), (42, .dcmp .g, 1), (43, .ifCond .ge (9), 3), (46, .ldc2_w 360, 3), (49, .goto (14), 3), (52, .dload_n 2, 1), (53, .dconst 0, 1), (54, .dcmp .l, 1), (55, .ifCond .le (7), 3), (58, .dconst 1, 1), (59, .goto (4), 3), (62, .dconst 0, 1), (63, .dreturn, 1)]
theorem dd_Mo_one : (ld_Mo_one).all (dOK prog_14_method_52_code) = true := by decide +kernel
theorem d_Mo_one_0 : decode prog_14_method_52_code 0 = .ok (.iload_n 1, 1) := dd_at dd_Mo_one 0 rfl
theorem d_Mo_one_1 : decode prog_14_method_52_code 1 = .ok (.bipush (8), 2) := dd_at dd_Mo_one 1 rfl
theorem d_Mo_one_3 : decode prog_14_method_52_code 3 = .ok (.if_icmp .ne (6), 3) := dd_at dd_Mo_one 2 rfl
theorem d_Mo_one_6 : decode prog_14_method_52_code 6 = .ok (.dload_n 2, 1) := dd_at dd_Mo_one 3 rfl
theorem d_Mo_one_7 : decode prog_14_method_52_code 7 = .ok (.dneg, 1) := dd_at dd_Mo_one 4 rfl
theorem d_Mo_one_8 : decode prog_14_method_52_code 8 = .ok (.dreturn, 1) := dd_at dd_Mo_one 5 rfl
theorem d_Mo_one_9 : decode prog_14_method_52_code 9 = .ok (.iload_n 1, 1) := dd_at dd_Mo_one 6 rfl
theorem d_Mo_one_10 : decode prog_14_method_52_code 10 = .ok (.bipush (9), 2) := dd_at dd_Mo_one 7 rfl
theorem d_Mo_one_12 : decode prog_14_method_52_code 12 = .ok (.if_icmp .ne (16), 3) := dd_at dd_Mo_one 8 rfl
theorem d_Mo_one_15 : decode prog_14_method_52_code 15 = .ok (.dload_n 2, 1) := dd_at dd_Mo_one 9 rfl
theorem d_Mo_one_16 : decode prog_14_method_52_code 16 = .ok (.dconst 0, 1) := dd_at dd_Mo_one 10 rfl
theorem d_Mo_one_17 : decode prog_14_method_52_code 17 = .ok (.dcmp .g, 1) := dd_at dd_Mo_one 11 rfl
theorem d_Mo_one_18 : decode prog_14_method_52_code 18 = .ok (.ifCond .ge (8), 3) := dd_at dd_Mo_one 12 rfl
theorem d_Mo_one_21 : decode prog_14_method_52_code 21 = .ok (.dload_n 2, 1) := dd_at dd_Mo_one 13 rfl
theorem d_Mo_one_22 : decode prog_14_method_52_code 22 = .ok (.dneg, 1) := dd_at dd_Mo_one 14 rfl
theorem d_Mo_one_23 : decode prog_14_method_52_code 23 = .ok (.goto (4), 3) := dd_at dd_Mo_one 15 rfl
theorem d_Mo_one_26 : decode prog_14_method_52_code 26 = .ok (.dload_n 2, 1) := dd_at dd_Mo_one 16 rfl
theorem d_Mo_one_27 : decode prog_14_method_52_code 27 = .ok (.dreturn, 1) := dd_at dd_Mo_one 17 rfl
theorem d_Mo_one_28 : decode prog_14_method_52_code 28 = .ok (.iload_n 1, 1) := dd_at dd_Mo_one 18 rfl
theorem d_Mo_one_29 : decode prog_14_method_52_code 29 = .ok (.bipush (10), 2) := dd_at dd_Mo_one 19 rfl
theorem d_Mo_one_31 : decode prog_14_method_52_code 31 = .ok (.if_icmp .ne (9), 3) := dd_at dd_Mo_one 20 rfl
theorem d_Mo_one_34 : decode prog_14_method_52_code 34 = .ok (.aload_n 0, 1) := dd_at dd_Mo_one 21 rfl
theorem d_Mo_one_35 : decode prog_14_method_52_code 35 = .ok (.dload_n 2, 1) := dd_at dd_Mo_one 22 rfl
theorem d_Mo_one_36 : decode prog_14_method_52_code 36 = .ok (.invokevirtual 357, 3) := dd_at dd_Mo_one 23 rfl
theorem d_Mo_one_39 : decode prog_14_method_52_code 39 = .ok (.dreturn, 1) := dd_at dd_Mo_one 24 rfl
theorem d_Mo_one_40 : decode prog_14_method_52_code 40 = .ok (.dload_n 2, 1) := dd_at dd_Mo_one 25 rfl
theorem d_Mo_one_41 : decode prog_14_method_52_code 41 = .ok (.dconst 0, 1) := dd_at dd_Mo_one 26 rfl
theorem d_Mo_one_42 : decode prog_14_method_52_code 42 = .ok (.dcmp .g, 1) := dd_at dd_Mo_one 27 rfl
theorem d_Mo_one_43 : decode prog_14_method_52_code 43 = .ok (.ifCond .ge (9), 3) := dd_at dd_Mo_one 28 rfl
theorem d_Mo_one_46 : decode prog_14_method_52_code 46 = .ok (.ldc2_w 360, 3) := dd_at dd_Mo_one 29 rfl
theorem d_Mo_one_49 : decode prog_14_method_52_code 49 = .ok (.goto (14), 3) := dd_at dd_Mo_one 30 rfl
theorem d_Mo_one_52 : decode prog_14_method_52_code 52 = .ok (.dload_n 2, 1) := dd_at dd_Mo_one 31 rfl
theorem d_Mo_one_53 : decode prog_14_method_52_code 53 = .ok (.dconst 0, 1) := dd_at dd_Mo_one 32 rfl
theorem d_Mo_one_54 : decode prog_14_method_52_code 54 = .ok (.dcmp .l, 1) := dd_at dd_Mo_one 33 rfl
theorem d_Mo_one_55 : decode prog_14_method_52_code 55 = .ok (.ifCond .le (7), 3) := dd_at dd_Mo_one 34 rfl
theorem d_Mo_one_58 : decode prog_14_method_52_code 58 = .ok (.dconst 1, 1) := dd_at dd_Mo_one 35 rfl
theorem d_Mo_one_59 : decode prog_14_method_52_code 59 = .ok (.goto (4), 3) := dd_at dd_Mo_one 36 rfl
theorem d_Mo_one_62 : decode prog_14_method_52_code 62 = .ok (.dconst 0, 1) := dd_at dd_Mo_one 37 rfl
theorem d_Mo_one_63 : decode prog_14_method_52_code 63 = .ok (.dreturn, 1) := dd_at dd_Mo_one 38 rfl
def ld_Mo_plain : List (Nat × Instr × Nat) := [(0, .dconst 1, 1), (1, .dstore_n 2, 1), (2, .iconst 0, 1), (3, .istore 4, 2), (5, .iload 4, 2), (7, .aload_n 0, 1), (8, .getfield 55, 3), (11, .iload_n 1, 1), (12, .iconst 1, 1), (13, .iadd, 1), (14, .iaload, 1), (15, .if_icmp .ge (15), 3), (18, .dload_n 2, 1), (19, .ldc2_w 362, 3), (22, .dmul, 1), (23, .dstore_n 2, 1), (24, .iinc 4 (1), 3), (27, .goto (-22), 3), (30, .aload_n 0, 1), (31, .getfield 55, 3), (34, .iload_n 1, 1), (35, .iaload, 1), (36, .i2d, 1), (37, .dload_n 2, 1), (38, .ddiv, 1), (39, .dreturn, 1)]
theorem dd_Mo_plain : (ld_Mo_plain).all (dOK prog_14_method_53_code) = true := by decide +kernel
theorem d_Mo_plain_0 : decode prog_14_method_53_code 0 = .ok (.dconst 1, 1) := dd_at dd_Mo_plain 0 rfl
theorem d_Mo_plain_1 : decode prog_14_method_53_code 1 = .ok (.dstore_n 2, 1) := dd_at dd_Mo_plain 1 rfl
theorem d_Mo_plain_2 : decode prog_14_method_53_code 2 = .ok (.iconst 0, 1) := dd_at dd_Mo_plain 2 rfl
theorem d_Mo_plain_3 : decode prog_14_method_53_code 3 = .ok (.istore 4, 2) := dd_at dd_Mo_plain 3 rfl
theorem d_Mo_plain_5 : decode prog_14_method_53_code 5 = .ok (.iload 4, 2) := dd_at dd_Mo_plain 4 rfl
theorem d_Mo_plain_7 : decode prog_14_method_53_code 7 = .ok (.aload_n 0, 1) := dd_at dd_Mo_plain 5 rfl
theorem d_Mo_plain_8 : decode prog_14_method_53_code 8 = .ok (.getfield 55, 3) := dd_at dd_Mo_plain 6 rfl
theorem d_Mo_plain_11 : decode prog_14_method_53_code 11 = .ok (.iload_n 1, 1) := dd_at dd_Mo_plain 7 rfl
theorem d_Mo_plain_12 : decode prog_14_method_53_code 12 = .ok (.iconst 1, 1) := dd_at dd_Mo_plain 8 rfl
theorem d_Mo_plain_13 : decode prog_14_method_53_code 13 = .ok (.iadd, 1) := dd_at dd_Mo_plain 9 rfl
theorem d_Mo_plain_14 : decode prog_14_method_53_code 14 = .ok (.iaload, 1) := dd_at dd_Mo_plain 10 rfl
theorem d_Mo_plain_15 : decode prog_14_method_53_code 15 = .ok (.if_icmp .ge (15), 3) := dd_at dd_Mo_plain 11 rfl
theorem d_Mo_plain_18 : decode prog_14_method_53_code 18 = .ok (.dload_n 2, 1) := dd_at dd_Mo_plain 12 rfl
theorem d_Mo_plain_19 : decode prog_14_method_53_code 19 = .ok (.ldc2_w 362, 3) := dd_at dd_Mo_plain 13 rfl
theorem d_Mo_plain_22 : decode prog_14_method_53_code 22 = .ok (.dmul, 1) := dd_at dd_Mo_plain 14 rfl
theorem d_Mo_plain_23 : decode prog_14_method_53_code 23 = .ok (.dstore_n 2, 1) := dd_at dd_Mo_plain 15 rfl
theorem d_Mo_plain_24 : decode prog_14_method_53_code 24 = .ok (.iinc 4 (1), 3) := dd_at dd_Mo_plain 16 rfl
theorem d_Mo_plain_27 : decode prog_14_method_53_code 27 = .ok (.goto (-22), 3) := dd_at dd_Mo_plain 17 rfl
theorem d_Mo_plain_30 : decode prog_14_method_53_code 30 = .ok (.aload_n 0, 1) := dd_at dd_Mo_plain 18 rfl
theorem d_Mo_plain_31 : decode prog_14_method_53_code 31 = .ok (.getfield 55, 3) := dd_at dd_Mo_plain 19 rfl
theorem d_Mo_plain_34 : decode prog_14_method_53_code 34 = .ok (.iload_n 1, 1) := dd_at dd_Mo_plain 20 rfl
theorem d_Mo_plain_35 : decode prog_14_method_53_code 35 = .ok (.iaload, 1) := dd_at dd_Mo_plain 21 rfl
theorem d_Mo_plain_36 : decode prog_14_method_53_code 36 = .ok (.i2d, 1) := dd_at dd_Mo_plain 22 rfl
theorem d_Mo_plain_37 : decode prog_14_method_53_code 37 = .ok (.dload_n 2, 1) := dd_at dd_Mo_plain 23 rfl
theorem d_Mo_plain_38 : decode prog_14_method_53_code 38 = .ok (.ddiv, 1) := dd_at dd_Mo_plain 24 rfl
theorem d_Mo_plain_39 : decode prog_14_method_53_code 39 = .ok (.dreturn, 1) := dd_at dd_Mo_plain 25 rfl
def ld_Mo_placeOf : List (Nat × Instr × Nat) := [(0, .dload_n 2, 1), (1, .d2l, 1), (2, .lstore 6, 2), (4, .dload 4, 2), (6, .d2l, 1), (7, .lstore 8, 2), (9, .lload 6, 2), (11, .lconst 1, 1), (12, .lcmp, 1), (13, .ifCond .lt (36), 3), (16, .lload 6, 2), (18, .aload_n 0, 1), (19, .getfield 128, 3), (22, .iload_n 1, 1), (23, .iaload, 1), (24, .i2l, 1), (25, .lcmp, 1), (26, .ifCond .gt (23), 3), (29, .lload 8, 2), (31, .lconst 1, 1), (32, .lcmp, 1), (33, .ifCond .lt (16), 3), (36, .lload 8, 2), (38, .aload_n 0, 1), (39, .getfield 131, 3), (42, .iload_n 1, 1), (43, .iaload, 1), (44, .i2l, 1), (45, .lcmp, 1), (46, .ifCond .le (10), 3), (49, .aload_n 0, 1), (50, .iconst 5, 1), (51, .putfield 94, 3), (54, .iconst (-1), 1), (55, .ireturn, 1), (56, .iload_n 1, 1), (57, .bipush (36), 2), (59, .imul, 1), (60, .lload 6, 2), (62, .lconst 1, 1), (63, .lsub, 1), (64, .l2i, 1), (65, .bipush (6), 2), (67, .imul, 1), (68, .iadd, 1), (69, .lload 8, 2), (71, .lconst 1, 1), (72, .lsub, 1), (73, .l2i, 1), (74, .iadd, 1), (75, .ireturn, 1)]
theorem dd_Mo_placeOf : (ld_Mo_placeOf).all (dOK prog_14_method_54_code) = true := by decide +kernel
theorem d_Mo_placeOf_0 : decode prog_14_method_54_code 0 = .ok (.dload_n 2, 1) := dd_at dd_Mo_placeOf 0 rfl
theorem d_Mo_placeOf_1 : decode prog_14_method_54_code 1 = .ok (.d2l, 1) := dd_at dd_Mo_placeOf 1 rfl
theorem d_Mo_placeOf_2 : decode prog_14_method_54_code 2 = .ok (.lstore 6, 2) := dd_at dd_Mo_placeOf 2 rfl
theorem d_Mo_placeOf_4 : decode prog_14_method_54_code 4 = .ok (.dload 4, 2) := dd_at dd_Mo_placeOf 3 rfl
theorem d_Mo_placeOf_6 : decode prog_14_method_54_code 6 = .ok (.d2l, 1) := dd_at dd_Mo_placeOf 4 rfl
theorem d_Mo_placeOf_7 : decode prog_14_method_54_code 7 = .ok (.lstore 8, 2) := dd_at dd_Mo_placeOf 5 rfl
theorem d_Mo_placeOf_9 : decode prog_14_method_54_code 9 = .ok (.lload 6, 2) := dd_at dd_Mo_placeOf 6 rfl
theorem d_Mo_placeOf_11 : decode prog_14_method_54_code 11 = .ok (.lconst 1, 1) := dd_at dd_Mo_placeOf 7 rfl
theorem d_Mo_placeOf_12 : decode prog_14_method_54_code 12 = .ok (.lcmp, 1) := dd_at dd_Mo_placeOf 8 rfl
theorem d_Mo_placeOf_13 : decode prog_14_method_54_code 13 = .ok (.ifCond .lt (36), 3) := dd_at dd_Mo_placeOf 9 rfl
theorem d_Mo_placeOf_16 : decode prog_14_method_54_code 16 = .ok (.lload 6, 2) := dd_at dd_Mo_placeOf 10 rfl
theorem d_Mo_placeOf_18 : decode prog_14_method_54_code 18 = .ok (.aload_n 0, 1) := dd_at dd_Mo_placeOf 11 rfl
theorem d_Mo_placeOf_19 : decode prog_14_method_54_code 19 = .ok (.getfield 128, 3) := dd_at dd_Mo_placeOf 12 rfl
theorem d_Mo_placeOf_22 : decode prog_14_method_54_code 22 = .ok (.iload_n 1, 1) := dd_at dd_Mo_placeOf 13 rfl
theorem d_Mo_placeOf_23 : decode prog_14_method_54_code 23 = .ok (.iaload, 1) := dd_at dd_Mo_placeOf 14 rfl
theorem d_Mo_placeOf_24 : decode prog_14_method_54_code 24 = .ok (.i2l, 1) := dd_at dd_Mo_placeOf 15 rfl
theorem d_Mo_placeOf_25 : decode prog_14_method_54_code 25 = .ok (.lcmp, 1) := dd_at dd_Mo_placeOf 16 rfl
theorem d_Mo_placeOf_26 : decode prog_14_method_54_code 26 = .ok (.ifCond .gt (23), 3) := dd_at dd_Mo_placeOf 17 rfl
theorem d_Mo_placeOf_29 : decode prog_14_method_54_code 29 = .ok (.lload 8, 2) := dd_at dd_Mo_placeOf 18 rfl
theorem d_Mo_placeOf_31 : decode prog_14_method_54_code 31 = .ok (.lconst 1, 1) := dd_at dd_Mo_placeOf 19 rfl
theorem d_Mo_placeOf_32 : decode prog_14_method_54_code 32 = .ok (.lcmp, 1) := dd_at dd_Mo_placeOf 20 rfl
theorem d_Mo_placeOf_33 : decode prog_14_method_54_code 33 = .ok (.ifCond .lt (16), 3) := dd_at dd_Mo_placeOf 21 rfl
theorem d_Mo_placeOf_36 : decode prog_14_method_54_code 36 = .ok (.lload 8, 2) := dd_at dd_Mo_placeOf 22 rfl
theorem d_Mo_placeOf_38 : decode prog_14_method_54_code 38 = .ok (.aload_n 0, 1) := dd_at dd_Mo_placeOf 23 rfl
theorem d_Mo_placeOf_39 : decode prog_14_method_54_code 39 = .ok (.getfield 131, 3) := dd_at dd_Mo_placeOf 24 rfl
theorem d_Mo_placeOf_42 : decode prog_14_method_54_code 42 = .ok (.iload_n 1, 1) := dd_at dd_Mo_placeOf 25 rfl
theorem d_Mo_placeOf_43 : decode prog_14_method_54_code 43 = .ok (.iaload, 1) := dd_at dd_Mo_placeOf 26 rfl
theorem d_Mo_placeOf_44 : decode prog_14_method_54_code 44 = .ok (.i2l, 1) := dd_at dd_Mo_placeOf 27 rfl
theorem d_Mo_placeOf_45 : decode prog_14_method_54_code 45 = .ok (.lcmp, 1) := dd_at dd_Mo_placeOf 28 rfl
theorem d_Mo_placeOf_46 : decode prog_14_method_54_code 46 = .ok (.ifCond .le (10), 3) := dd_at dd_Mo_placeOf 29 rfl
theorem d_Mo_placeOf_49 : decode prog_14_method_54_code 49 = .ok (.aload_n 0, 1) := dd_at dd_Mo_placeOf 30 rfl
theorem d_Mo_placeOf_50 : decode prog_14_method_54_code 50 = .ok (.iconst 5, 1) := dd_at dd_Mo_placeOf 31 rfl
theorem d_Mo_placeOf_51 : decode prog_14_method_54_code 51 = .ok (.putfield 94, 3) := dd_at dd_Mo_placeOf 32 rfl
theorem d_Mo_placeOf_54 : decode prog_14_method_54_code 54 = .ok (.iconst (-1), 1) := dd_at dd_Mo_placeOf 33 rfl
theorem d_Mo_placeOf_55 : decode prog_14_method_54_code 55 = .ok (.ireturn, 1) := dd_at dd_Mo_placeOf 34 rfl
theorem d_Mo_placeOf_56 : decode prog_14_method_54_code 56 = .ok (.iload_n 1, 1) := dd_at dd_Mo_placeOf 35 rfl
theorem d_Mo_placeOf_57 : decode prog_14_method_54_code 57 = .ok (.bipush (36), 2) := dd_at dd_Mo_placeOf 36 rfl
theorem d_Mo_placeOf_59 : decode prog_14_method_54_code 59 = .ok (.imul, 1) := dd_at dd_Mo_placeOf 37 rfl
theorem d_Mo_placeOf_60 : decode prog_14_method_54_code 60 = .ok (.lload 6, 2) := dd_at dd_Mo_placeOf 38 rfl
theorem d_Mo_placeOf_62 : decode prog_14_method_54_code 62 = .ok (.lconst 1, 1) := dd_at dd_Mo_placeOf 39 rfl
theorem d_Mo_placeOf_63 : decode prog_14_method_54_code 63 = .ok (.lsub, 1) := dd_at dd_Mo_placeOf 40 rfl
theorem d_Mo_placeOf_64 : decode prog_14_method_54_code 64 = .ok (.l2i, 1) := dd_at dd_Mo_placeOf 41 rfl
theorem d_Mo_placeOf_65 : decode prog_14_method_54_code 65 = .ok (.bipush (6), 2) := dd_at dd_Mo_placeOf 42 rfl
theorem d_Mo_placeOf_67 : decode prog_14_method_54_code 67 = .ok (.imul, 1) := dd_at dd_Mo_placeOf 43 rfl
theorem d_Mo_placeOf_68 : decode prog_14_method_54_code 68 = .ok (.iadd, 1) := dd_at dd_Mo_placeOf 44 rfl
theorem d_Mo_placeOf_69 : decode prog_14_method_54_code 69 = .ok (.lload 8, 2) := dd_at dd_Mo_placeOf 45 rfl
theorem d_Mo_placeOf_71 : decode prog_14_method_54_code 71 = .ok (.lconst 1, 1) := dd_at dd_Mo_placeOf 46 rfl
theorem d_Mo_placeOf_72 : decode prog_14_method_54_code 72 = .ok (.lsub, 1) := dd_at dd_Mo_placeOf 47 rfl
theorem d_Mo_placeOf_73 : decode prog_14_method_54_code 73 = .ok (.l2i, 1) := dd_at dd_Mo_placeOf 48 rfl
theorem d_Mo_placeOf_74 : decode prog_14_method_54_code 74 = .ok (.iadd, 1) := dd_at dd_Mo_placeOf 49 rfl
theorem d_Mo_placeOf_75 : decode prog_14_method_54_code 75 = .ok (.ireturn, 1) := dd_at dd_Mo_placeOf 50 rfl
def ld_Mo_call : List (Nat × Instr × Nat) := [(0, .aload_n 0, 1), (1, .getfield 85, 3), (4, .iconst 3, 1), (5, .if_icmp .ne (10), 3), (8, .aload_n 0, 1), (9, .iconst 2, 1), (10, .putfield 94, 3), (13, .iload_n 2, 1), (14, .ireturn, 1), (15, .aload_n 0, 1), (16, .getfield 49, 3), (19, .aload_n 0, 1), (20, .getfield 125, 3), (23, .iload_n 1, 1), (24, .iaload, 1), (25, .bipush (8), 2), (27, .imul, 1), (28, .iconst 1, 1), (29, .iadd, 1), (30, .iaload, 1), (31, .istore_n 3, 1), (32, .aload_n 0, 1), (33, .getfield 143, 3), (36, .aload_n 0, 1), (37, .getfield 85, 3), (40, .iload_n 2, 1), (41, .iastore, 1), (42, .aload_n 0, 1), (43, .getfield 146, 3), (46, .aload_n 0, 1), (47, .getfield 85, 3), (50, .iload_n 3, 1), (51, .iastore, 1), (52, .aload_n 0, 1), (53, .getfield 116, 3), (56, .aload_n 0, 1), (57, .getfield 85, 3), (60, .aload_n 0, 1), (61, .getfield 101, 3), (64, .iload_n 3, 1), (65, .daload, 1), (66, .dastore, 1), (67, .aload_n 0, 1), (68, .dup, 1), (69, .getfield 85, 3), (72, .iconst 1, 1), (73, .iadd, 1), (74, .putfield 85, 3), (77, .aload_n 0, 1), (78, .dup, 1), (79, .getfield 88, 3), (82, .iconst 1, 1), (83, .isub, 1), (84, .putfield 88, 3), (87, .aload_n 0, 1), (88, .getfield 101, 3), (91, .iload_n 3, 1), (92, .aload_n 0, 1), (93, .getfield 104, 3), (96, .aload_n 0, 1), (97, .getfield 88, 3), (100, .daload, 1), (101, .dastore, 1), (102, .aload_n 0, 1), (103, .getfield 52, 3), (106, .aload_n 0, 1), (107, .getfield 125, 3), (110, .iload_n 1, 1), (111, .iaload, 1), (112, .iconst 4, 1), (113, .imul, 1), (114, .iaload, 1), (115, .ireturn, 1)]
theorem dd_Mo_call : (ld_Mo_call).all (dOK prog_14_method_55_code) = true := by decide +kernel
theorem d_Mo_call_0 : decode prog_14_method_55_code 0 = .ok (.aload_n 0, 1) := dd_at dd_Mo_call 0 rfl
theorem d_Mo_call_1 : decode prog_14_method_55_code 1 = .ok (.getfield 85, 3) := dd_at dd_Mo_call 1 rfl
theorem d_Mo_call_4 : decode prog_14_method_55_code 4 = .ok (.iconst 3, 1) := dd_at dd_Mo_call 2 rfl
theorem d_Mo_call_5 : decode prog_14_method_55_code 5 = .ok (.if_icmp .ne (10), 3) := dd_at dd_Mo_call 3 rfl
theorem d_Mo_call_8 : decode prog_14_method_55_code 8 = .ok (.aload_n 0, 1) := dd_at dd_Mo_call 4 rfl
theorem d_Mo_call_9 : decode prog_14_method_55_code 9 = .ok (.iconst 2, 1) := dd_at dd_Mo_call 5 rfl
theorem d_Mo_call_10 : decode prog_14_method_55_code 10 = .ok (.putfield 94, 3) := dd_at dd_Mo_call 6 rfl
theorem d_Mo_call_13 : decode prog_14_method_55_code 13 = .ok (.iload_n 2, 1) := dd_at dd_Mo_call 7 rfl
theorem d_Mo_call_14 : decode prog_14_method_55_code 14 = .ok (.ireturn, 1) := dd_at dd_Mo_call 8 rfl
theorem d_Mo_call_15 : decode prog_14_method_55_code 15 = .ok (.aload_n 0, 1) := dd_at dd_Mo_call 9 rfl
theorem d_Mo_call_16 : decode prog_14_method_55_code 16 = .ok (.getfield 49, 3) := dd_at dd_Mo_call 10 rfl
theorem d_Mo_call_19 : decode prog_14_method_55_code 19 = .ok (.aload_n 0, 1) := dd_at dd_Mo_call 11 rfl
theorem d_Mo_call_20 : decode prog_14_method_55_code 20 = .ok (.getfield 125, 3) := dd_at dd_Mo_call 12 rfl
theorem d_Mo_call_23 : decode prog_14_method_55_code 23 = .ok (.iload_n 1, 1) := dd_at dd_Mo_call 13 rfl
theorem d_Mo_call_24 : decode prog_14_method_55_code 24 = .ok (.iaload, 1) := dd_at dd_Mo_call 14 rfl
theorem d_Mo_call_25 : decode prog_14_method_55_code 25 = .ok (.bipush (8), 2) := dd_at dd_Mo_call 15 rfl
theorem d_Mo_call_27 : decode prog_14_method_55_code 27 = .ok (.imul, 1) := dd_at dd_Mo_call 16 rfl
theorem d_Mo_call_28 : decode prog_14_method_55_code 28 = .ok (.iconst 1, 1) := dd_at dd_Mo_call 17 rfl
theorem d_Mo_call_29 : decode prog_14_method_55_code 29 = .ok (.iadd, 1) := dd_at dd_Mo_call 18 rfl
theorem d_Mo_call_30 : decode prog_14_method_55_code 30 = .ok (.iaload, 1) := dd_at dd_Mo_call 19 rfl
theorem d_Mo_call_31 : decode prog_14_method_55_code 31 = .ok (.istore_n 3, 1) := dd_at dd_Mo_call 20 rfl
theorem d_Mo_call_32 : decode prog_14_method_55_code 32 = .ok (.aload_n 0, 1) := dd_at dd_Mo_call 21 rfl
theorem d_Mo_call_33 : decode prog_14_method_55_code 33 = .ok (.getfield 143, 3) := dd_at dd_Mo_call 22 rfl
theorem d_Mo_call_36 : decode prog_14_method_55_code 36 = .ok (.aload_n 0, 1) := dd_at dd_Mo_call 23 rfl
theorem d_Mo_call_37 : decode prog_14_method_55_code 37 = .ok (.getfield 85, 3) := dd_at dd_Mo_call 24 rfl
theorem d_Mo_call_40 : decode prog_14_method_55_code 40 = .ok (.iload_n 2, 1) := dd_at dd_Mo_call 25 rfl
theorem d_Mo_call_41 : decode prog_14_method_55_code 41 = .ok (.iastore, 1) := dd_at dd_Mo_call 26 rfl
theorem d_Mo_call_42 : decode prog_14_method_55_code 42 = .ok (.aload_n 0, 1) := dd_at dd_Mo_call 27 rfl
theorem d_Mo_call_43 : decode prog_14_method_55_code 43 = .ok (.getfield 146, 3) := dd_at dd_Mo_call 28 rfl
theorem d_Mo_call_46 : decode prog_14_method_55_code 46 = .ok (.aload_n 0, 1) := dd_at dd_Mo_call 29 rfl
theorem d_Mo_call_47 : decode prog_14_method_55_code 47 = .ok (.getfield 85, 3) := dd_at dd_Mo_call 30 rfl
theorem d_Mo_call_50 : decode prog_14_method_55_code 50 = .ok (.iload_n 3, 1) := dd_at dd_Mo_call 31 rfl
theorem d_Mo_call_51 : decode prog_14_method_55_code 51 = .ok (.iastore, 1) := dd_at dd_Mo_call 32 rfl
theorem d_Mo_call_52 : decode prog_14_method_55_code 52 = .ok (.aload_n 0, 1) := dd_at dd_Mo_call 33 rfl
theorem d_Mo_call_53 : decode prog_14_method_55_code 53 = .ok (.getfield 116, 3) := dd_at dd_Mo_call 34 rfl
theorem d_Mo_call_56 : decode prog_14_method_55_code 56 = .ok (.aload_n 0, 1) := dd_at dd_Mo_call 35 rfl
theorem d_Mo_call_57 : decode prog_14_method_55_code 57 = .ok (.getfield 85, 3) := dd_at dd_Mo_call 36 rfl
theorem d_Mo_call_60 : decode prog_14_method_55_code 60 = .ok (.aload_n 0, 1) := dd_at dd_Mo_call 37 rfl
theorem d_Mo_call_61 : decode prog_14_method_55_code 61 = .ok (.getfield 101, 3) := dd_at dd_Mo_call 38 rfl
theorem d_Mo_call_64 : decode prog_14_method_55_code 64 = .ok (.iload_n 3, 1) := dd_at dd_Mo_call 39 rfl
theorem d_Mo_call_65 : decode prog_14_method_55_code 65 = .ok (.daload, 1) := dd_at dd_Mo_call 40 rfl
theorem d_Mo_call_66 : decode prog_14_method_55_code 66 = .ok (.dastore, 1) := dd_at dd_Mo_call 41 rfl
theorem d_Mo_call_67 : decode prog_14_method_55_code 67 = .ok (.aload_n 0, 1) := dd_at dd_Mo_call 42 rfl
theorem d_Mo_call_68 : decode prog_14_method_55_code 68 = .ok (.dup, 1) := dd_at dd_Mo_call 43 rfl
theorem d_Mo_call_69 : decode prog_14_method_55_code 69 = .ok (.getfield 85, 3) := dd_at dd_Mo_call 44 rfl
theorem d_Mo_call_72 : decode prog_14_method_55_code 72 = .ok (.iconst 1, 1) := dd_at dd_Mo_call 45 rfl
theorem d_Mo_call_73 : decode prog_14_method_55_code 73 = .ok (.iadd, 1) := dd_at dd_Mo_call 46 rfl
theorem d_Mo_call_74 : decode prog_14_method_55_code 74 = .ok (.putfield 85, 3) := dd_at dd_Mo_call 47 rfl
theorem d_Mo_call_77 : decode prog_14_method_55_code 77 = .ok (.aload_n 0, 1) := dd_at dd_Mo_call 48 rfl
theorem d_Mo_call_78 : decode prog_14_method_55_code 78 = .ok (.dup, 1) := dd_at dd_Mo_call 49 rfl
theorem d_Mo_call_79 : decode prog_14_method_55_code 79 = .ok (.getfield 88, 3) := dd_at dd_Mo_call 50 rfl
theorem d_Mo_call_82 : decode prog_14_method_55_code 82 = .ok (.iconst 1, 1) := dd_at dd_Mo_call 51 rfl
theorem d_Mo_call_83 : decode prog_14_method_55_code 83 = .ok (.isub, 1) := dd_at dd_Mo_call 52 rfl
theorem d_Mo_call_84 : decode prog_14_method_55_code 84 = .ok (.putfield 88, 3) := dd_at dd_Mo_call 53 rfl
theorem d_Mo_call_87 : decode prog_14_method_55_code 87 = .ok (.aload_n 0, 1) := dd_at dd_Mo_call 54 rfl
theorem d_Mo_call_88 : decode prog_14_method_55_code 88 = .ok (.getfield 101, 3) := dd_at dd_Mo_call 55 rfl
theorem d_Mo_call_91 : decode prog_14_method_55_code 91 = .ok (.iload_n 3, 1) := dd_at dd_Mo_call 56 rfl
theorem d_Mo_call_92 : decode prog_14_method_55_code 92 = .ok (.aload_n 0, 1) := dd_at dd_Mo_call 57 rfl
theorem d_Mo_call_93 : decode prog_14_method_55_code 93 = .ok (.getfield 104, 3) := dd_at dd_Mo_call 58 rfl
theorem d_Mo_call_96 : decode prog_14_method_55_code 96 = .ok (.aload_n 0, 1) := dd_at dd_Mo_call 59 rfl
theorem d_Mo_call_97 : decode prog_14_method_55_code 97 = .ok (.getfield 88, 3) := dd_at dd_Mo_call 60 rfl
theorem d_Mo_call_100 : decode prog_14_method_55_code 100 = .ok (.daload, 1) := dd_at dd_Mo_call 61 rfl
theorem d_Mo_call_101 : decode prog_14_method_55_code 101 = .ok (.dastore, 1) := dd_at dd_Mo_call 62 rfl
theorem d_Mo_call_102 : decode prog_14_method_55_code 102 = .ok (.aload_n 0, 1) := dd_at dd_Mo_call 63 rfl
theorem d_Mo_call_103 : decode prog_14_method_55_code 103 = .ok (.getfield 52, 3) := dd_at dd_Mo_call 64 rfl
theorem d_Mo_call_106 : decode prog_14_method_55_code 106 = .ok (.aload_n 0, 1) := dd_at dd_Mo_call 65 rfl
theorem d_Mo_call_107 : decode prog_14_method_55_code 107 = .ok (.getfield 125, 3) := dd_at dd_Mo_call 66 rfl
theorem d_Mo_call_110 : decode prog_14_method_55_code 110 = .ok (.iload_n 1, 1) := dd_at dd_Mo_call 67 rfl
theorem d_Mo_call_111 : decode prog_14_method_55_code 111 = .ok (.iaload, 1) := dd_at dd_Mo_call 68 rfl
theorem d_Mo_call_112 : decode prog_14_method_55_code 112 = .ok (.iconst 4, 1) := dd_at dd_Mo_call 69 rfl
theorem d_Mo_call_113 : decode prog_14_method_55_code 113 = .ok (.imul, 1) := dd_at dd_Mo_call 70 rfl
theorem d_Mo_call_114 : decode prog_14_method_55_code 114 = .ok (.iaload, 1) := dd_at dd_Mo_call 71 rfl
theorem d_Mo_call_115 : decode prog_14_method_55_code 115 = .ok (.ireturn, 1) := dd_at dd_Mo_call 72 rfl
def ld_Mo_leave : List (Nat × Instr × Nat) := [(0, .aload_n 0, 1), (1, .dup, 1), (2, .getfield 85, 3), (5, .iconst 1, 1), (6, .isub, 1), (7, .putfield 85, 3), (10, .aload_n 0, 1), (11, .getfield 101, 3), (14, .aload_n 0, 1), (15, .getfield 146, 3), (18, .aload_n 0, 1), (19, .getfield 85, 3), (22, .iaload, 1), (23, .aload_n 0, 1), (24, .getfield 116, 3), (27, .aload_n 0, 1), (28, .getfield 85, 3), (31, .daload, 1), (32, .dastore, 1), (33, .return_, 1)]
theorem dd_Mo_leave : (ld_Mo_leave).all (dOK prog_14_method_56_code) = true := by decide +kernel
theorem d_Mo_leave_0 : decode prog_14_method_56_code 0 = .ok (.aload_n 0, 1) := dd_at dd_Mo_leave 0 rfl
theorem d_Mo_leave_1 : decode prog_14_method_56_code 1 = .ok (.dup, 1) := dd_at dd_Mo_leave 1 rfl
theorem d_Mo_leave_2 : decode prog_14_method_56_code 2 = .ok (.getfield 85, 3) := dd_at dd_Mo_leave 2 rfl
theorem d_Mo_leave_5 : decode prog_14_method_56_code 5 = .ok (.iconst 1, 1) := dd_at dd_Mo_leave 3 rfl
theorem d_Mo_leave_6 : decode prog_14_method_56_code 6 = .ok (.isub, 1) := dd_at dd_Mo_leave 4 rfl
theorem d_Mo_leave_7 : decode prog_14_method_56_code 7 = .ok (.putfield 85, 3) := dd_at dd_Mo_leave 5 rfl
theorem d_Mo_leave_10 : decode prog_14_method_56_code 10 = .ok (.aload_n 0, 1) := dd_at dd_Mo_leave 6 rfl
theorem d_Mo_leave_11 : decode prog_14_method_56_code 11 = .ok (.getfield 101, 3) := dd_at dd_Mo_leave 7 rfl
theorem d_Mo_leave_14 : decode prog_14_method_56_code 14 = .ok (.aload_n 0, 1) := dd_at dd_Mo_leave 8 rfl
theorem d_Mo_leave_15 : decode prog_14_method_56_code 15 = .ok (.getfield 146, 3) := dd_at dd_Mo_leave 9 rfl
theorem d_Mo_leave_18 : decode prog_14_method_56_code 18 = .ok (.aload_n 0, 1) := dd_at dd_Mo_leave 10 rfl
theorem d_Mo_leave_19 : decode prog_14_method_56_code 19 = .ok (.getfield 85, 3) := dd_at dd_Mo_leave 11 rfl
theorem d_Mo_leave_22 : decode prog_14_method_56_code 22 = .ok (.iaload, 1) := dd_at dd_Mo_leave 12 rfl
theorem d_Mo_leave_23 : decode prog_14_method_56_code 23 = .ok (.aload_n 0, 1) := dd_at dd_Mo_leave 13 rfl
theorem d_Mo_leave_24 : decode prog_14_method_56_code 24 = .ok (.getfield 116, 3) := dd_at dd_Mo_leave 14 rfl
theorem d_Mo_leave_27 : decode prog_14_method_56_code 27 = .ok (.aload_n 0, 1) := dd_at dd_Mo_leave 15 rfl
theorem d_Mo_leave_28 : decode prog_14_method_56_code 28 = .ok (.getfield 85, 3) := dd_at dd_Mo_leave 16 rfl
theorem d_Mo_leave_31 : decode prog_14_method_56_code 31 = .ok (.daload, 1) := dd_at dd_Mo_leave 17 rfl
theorem d_Mo_leave_32 : decode prog_14_method_56_code 32 = .ok (.dastore, 1) := dd_at dd_Mo_leave 18 rfl
theorem d_Mo_leave_33 : decode prog_14_method_56_code 33 = .ok (.return_, 1) := dd_at dd_Mo_leave 19 rfl
def ld_Mo_operate : List (Nat × Instr × Nat) := [(0, .aload_n 0, 1), (1, .getfield 55, 3), (4, .iload_n 2, 1), (5, .iconst 1, 1), (6, .iadd, 1), (7, .iaload, 1), (8, .istore_n 3, 1), (9, .iload_n 1, 1), (10, .ifCond .ne (33), 3), (13, .aload_n 0, 1), (14, .getfield 104, 3), (17, .aload_n 0, 1), (18, .getfield 88, 3), (21, .aload_n 0, 1), (22, .iload_n 2, 1), (23, .iconst 1, 1), (24, .iadd, 1), (25, .invokevirtual 364, 3), (28, .dastore, 1), (29, .aload_n 0, 1), (30, .dup, 1), (31, .getfield 88, 3), (34, .iconst 1, 1), (35, .iadd, 1), (36, .putfield 88, 3), (39, .iload_n 2, 1), (40, .iconst 3, 1), (41, .iadd, 1), (42, .ireturn, 1), (43, .iload_n 1, 1), (44, .iconst 1, 1), (45, .if_icmp .ne (32), 3), (48, .aload_n 0, 1), (49, .getfield 104, 3), (52, .aload_n 0, 1), (53, .getfield 88, 3), (56, .aload_n 0, 1), (57, .getfield 101, 3), (60, .iload_n 3, 1), (61, .daload, 1), (62, .dastore, 1), (63, .aload_n 0, 1), (64, .dup, 1), (65, .getfield 88, 3), (68, .iconst 1, 1), (69, .iadd, 1), (70, .putfield 88, 3), (73, .iload_n 2, 1), (74, .iconst 2, 1), (75, .iadd, 1), (76, .ireturn, 1), (77, .iload_n 1, 1), (78, .iconst 2, 1), (79, .if_icmp .ne (67), 3), (82, .aload_n 0, 1), (83, .dup, 1), (84, .getfield 88, 3), (87, .iconst 1, 1), (88, .isub, 1), (89, .putfield 88, 3), (92, .aload_n 0, 1), (93, .iload_n 3, 1), (94, .aload_n 0, 1), (95, .getfield 104, 3), (98, .aload_n 0, 1), (99, .getfield 88, 3), (102, .iconst 1, 1), (103, .isub, 1), (104, .daload, 1), (105, .aload_n 0, 1), (106, .getfield 104, 3), (109, .aload_n 0, 1), (110, .getfield 88, 3), (113, .daload, 1), (114, .invokevirtual 368, 3), (117, .istore 4, 2), (119, .iload 4, 2), (121, .ifCond .lt (21), 3), (124, .aload_n 0, 1), (125, .getfield 104, 3), (128, .aload_n 0, 1), (129, .getfield 88, 3), (132, .iconst 1, 1), (133, .isub, 1), (134, .aload_n 0, 1), (135, .getfield 119, 3), (138, .iload 4, 2), (140, .daload, 1), (141, .dastore, 1), (142, .iload_n 2, 1), (143, .iconst 2, 1), (144, .iadd, 1), (145, .ireturn, 1), (146, .iload_n 1, 1), (147, .bipush (8), 2), (149, .if_icmp .ge (53), 3), (152, .aload_n 0, 1), (153, .dup, 1), (154, .getfield 88, 3), (157, .iconst 1, 1), (158, .isub, 1), (159, .putfield 88, 3), (162, .aload_n 0, 1), (163, .getfield 104, 3), (166, .aload_n 0, 1), (167, .getfield 88, 3), (170, .iconst 1, 1), (171, .isub, 1), (172, .aload_n 0, 1), (173, .iload_n 1, 1), (174, .aload_n 0, 1), (175, .getfield 104, 3), (178, .aload_n 0, 1), (179, .getfield 88, 3), (182, .iconst 1, 1), (183, .isub, 1), (184, .daload, 1), (185, .aload_n 0, 1), (186, .getfield 104, 3), (189, .aload_n 0, 1), (190, .getfield 88, 3), (193, .daload, 1), (194, .invokevirtual 372, 3), (197, .dastore, 1), (198, .iload_n 2, 1), (199, .iconst 1, 1), (200, .iadd, 1), (201, .ireturn, 1), (202, .iload_n 1, 1), (203, .bipush (12), 2), (205, .if_icmp .ge (34), 3), (208, .aload_n 0, 1), (209, .getfield 104, 3), (212, .aload_n 0, 1), (213, .getfield 88, 3), (216, .iconst 1, 1), (217, .isub, 1), (218, .aload_n 0, 1), (219, .iload_n 1, 1), (220, .aload_n 0, 1), (221, .getfield 104, 3), (224, .aload_n 0, 1), (225, .getfield 88, 3), (228, .iconst 1, 1), (229, .isub, 1), (230, .daload, 1), (231, .invokevirtual 376, 3), (234, .dastore, 1), (235, .iload_n 2, 1), (236, .iconst 1, 1), (237, .iadd, 1), (238, .ireturn, 1), (239, .iload_n 1, 1), (240, .bipush (13), 2), (242, .if_icmp .ne (12), 3), (245, .aload_n 0, 1), (246, .iload_n 3, 1), (247, .iload_n 2, 1), (248, .iconst 2, 1), (249, .iadd, 1), (250, .invokevirtual 380, 3), (253, .ireturn, 1), (254, .aload_n 0, 1), (255, .getfield 125, 3), (258, .iload_n 3, 1), (259, .iaload, 1), (260, .ifCond .ge (8), 3), (263, .aload_n 0, 1), (264, .iconst 3, 1), (265, .putfield 94, 3), (268, .iload_n 2, 1), (269, .iconst 2, 1), (270, .iadd, 1), (271, .ireturn, 1)]
theorem dd_Mo_operate : (ld_Mo_operate).all (dOK prog_14_method_57_code) = true := by decide +kernel
theorem d_Mo_operate_0 : decode prog_14_method_57_code 0 = .ok (.aload_n 0, 1) := dd_at dd_Mo_operate 0 rfl
theorem d_Mo_operate_1 : decode prog_14_method_57_code 1 = .ok (.getfield 55, 3) := dd_at dd_Mo_operate 1 rfl
theorem d_Mo_operate_4 : decode prog_14_method_57_code 4 = .ok (.iload_n 2, 1) := dd_at dd_Mo_operate 2 rfl
theorem d_Mo_operate_5 : decode prog_14_method_57_code 5 = .ok (.iconst 1, 1) := dd_at dd_Mo_operate 3 rfl
theorem d_Mo_operate_6 : decode prog_14_method_57_code 6 = .ok (.iadd, 1) := dd_at dd_Mo_operate 4 rfl
theorem d_Mo_operate_7 : decode prog_14_method_57_code 7 = .ok (.iaload, 1) := dd_at dd_Mo_operate 5 rfl
theorem d_Mo_operate_8 : decode prog_14_method_57_code 8 = .ok (.istore_n 3, 1) := dd_at dd_Mo_operate 6 rfl
theorem d_Mo_operate_9 : decode prog_14_method_57_code 9 = .ok (.iload_n 1, 1) := dd_at dd_Mo_operate 7 rfl
theorem d_Mo_operate_10 : decode prog_14_method_57_code 10 = .ok (.ifCond .ne (33), 3) := dd_at dd_Mo_operate 8 rfl
theorem d_Mo_operate_13 : decode prog_14_method_57_code 13 = .ok (.aload_n 0, 1) := dd_at dd_Mo_operate 9 rfl
theorem d_Mo_operate_14 : decode prog_14_method_57_code 14 = .ok (.getfield 104, 3) := dd_at dd_Mo_operate 10 rfl
theorem d_Mo_operate_17 : decode prog_14_method_57_code 17 = .ok (.aload_n 0, 1) := dd_at dd_Mo_operate 11 rfl
theorem d_Mo_operate_18 : decode prog_14_method_57_code 18 = .ok (.getfield 88, 3) := dd_at dd_Mo_operate 12 rfl
theorem d_Mo_operate_21 : decode prog_14_method_57_code 21 = .ok (.aload_n 0, 1) := dd_at dd_Mo_operate 13 rfl
theorem d_Mo_operate_22 : decode prog_14_method_57_code 22 = .ok (.iload_n 2, 1) := dd_at dd_Mo_operate 14 rfl
theorem d_Mo_operate_23 : decode prog_14_method_57_code 23 = .ok (.iconst 1, 1) := dd_at dd_Mo_operate 15 rfl
theorem d_Mo_operate_24 : decode prog_14_method_57_code 24 = .ok (.iadd, 1) := dd_at dd_Mo_operate 16 rfl
theorem d_Mo_operate_25 : decode prog_14_method_57_code 25 = .ok (.invokevirtual 364, 3) := dd_at dd_Mo_operate 17 rfl
theorem d_Mo_operate_28 : decode prog_14_method_57_code 28 = .ok (.dastore, 1) := dd_at dd_Mo_operate 18 rfl
theorem d_Mo_operate_29 : decode prog_14_method_57_code 29 = .ok (.aload_n 0, 1) := dd_at dd_Mo_operate 19 rfl
theorem d_Mo_operate_30 : decode prog_14_method_57_code 30 = .ok (.dup, 1) := dd_at dd_Mo_operate 20 rfl
theorem d_Mo_operate_31 : decode prog_14_method_57_code 31 = .ok (.getfield 88, 3) := dd_at dd_Mo_operate 21 rfl
theorem d_Mo_operate_34 : decode prog_14_method_57_code 34 = .ok (.iconst 1, 1) := dd_at dd_Mo_operate 22 rfl
theorem d_Mo_operate_35 : decode prog_14_method_57_code 35 = .ok (.iadd, 1) := dd_at dd_Mo_operate 23 rfl
theorem d_Mo_operate_36 : decode prog_14_method_57_code 36 = .ok (.putfield 88, 3) := dd_at dd_Mo_operate 24 rfl
theorem d_Mo_operate_39 : decode prog_14_method_57_code 39 = .ok (.iload_n 2, 1) := dd_at dd_Mo_operate 25 rfl
theorem d_Mo_operate_40 : decode prog_14_method_57_code 40 = .ok (.iconst 3, 1) := dd_at dd_Mo_operate 26 rfl
theorem d_Mo_operate_41 : decode prog_14_method_57_code 41 = .ok (.iadd, 1) := dd_at dd_Mo_operate 27 rfl
theorem d_Mo_operate_42 : decode prog_14_method_57_code 42 = .ok (.ireturn, 1) := dd_at dd_Mo_operate 28 rfl
theorem d_Mo_operate_43 : decode prog_14_method_57_code 43 = .ok (.iload_n 1, 1) := dd_at dd_Mo_operate 29 rfl
theorem d_Mo_operate_44 : decode prog_14_method_57_code 44 = .ok (.iconst 1, 1) := dd_at dd_Mo_operate 30 rfl
theorem d_Mo_operate_45 : decode prog_14_method_57_code 45 = .ok (.if_icmp .ne (32), 3) := dd_at dd_Mo_operate 31 rfl
theorem d_Mo_operate_48 : decode prog_14_method_57_code 48 = .ok (.aload_n 0, 1) := dd_at dd_Mo_operate 32 rfl
theorem d_Mo_operate_49 : decode prog_14_method_57_code 49 = .ok (.getfield 104, 3) := dd_at dd_Mo_operate 33 rfl
theorem d_Mo_operate_52 : decode prog_14_method_57_code 52 = .ok (.aload_n 0, 1) := dd_at dd_Mo_operate 34 rfl
theorem d_Mo_operate_53 : decode prog_14_method_57_code 53 = .ok (.getfield 88, 3) := dd_at dd_Mo_operate 35 rfl
theorem d_Mo_operate_56 : decode prog_14_method_57_code 56 = .ok (.aload_n 0, 1) := dd_at dd_Mo_operate 36 rfl
theorem d_Mo_operate_57 : decode prog_14_method_57_code 57 = .ok (.getfield 101, 3) := dd_at dd_Mo_operate 37 rfl
theorem d_Mo_operate_60 : decode prog_14_method_57_code 60 = .ok (.iload_n 3, 1) := dd_at dd_Mo_operate 38 rfl
theorem d_Mo_operate_61 : decode prog_14_method_57_code 61 = .ok (.daload, 1) := dd_at dd_Mo_operate 39 rfl
theorem d_Mo_operate_62 : decode prog_14_method_57_code 62 = .ok (.dastore, 1) := dd_at dd_Mo_operate 40 rfl
theorem d_Mo_operate_63 : decode prog_14_method_57_code 63 = .ok (.aload_n 0, 1) := dd_at dd_Mo_operate 41 rfl
theorem d_Mo_operate_64 : decode prog_14_method_57_code 64 = .ok (.dup, 1) := dd_at dd_Mo_operate 42 rfl
theorem d_Mo_operate_65 : decode prog_14_method_57_code 65 = .ok (.getfield 88, 3) := dd_at dd_Mo_operate 43 rfl
theorem d_Mo_operate_68 : decode prog_14_method_57_code 68 = .ok (.iconst 1, 1) := dd_at dd_Mo_operate 44 rfl
theorem d_Mo_operate_69 : decode prog_14_method_57_code 69 = .ok (.iadd, 1) := dd_at dd_Mo_operate 45 rfl
theorem d_Mo_operate_70 : decode prog_14_method_57_code 70 = .ok (.putfield 88, 3) := dd_at dd_Mo_operate 46 rfl
theorem d_Mo_operate_73 : decode prog_14_method_57_code 73 = .ok (.iload_n 2, 1) := dd_at dd_Mo_operate 47 rfl
theorem d_Mo_operate_74 : decode prog_14_method_57_code 74 = .ok (.iconst 2, 1) := dd_at dd_Mo_operate 48 rfl
theorem d_Mo_operate_75 : decode prog_14_method_57_code 75 = .ok (.iadd, 1) := dd_at dd_Mo_operate 49 rfl
theorem d_Mo_operate_76 : decode prog_14_method_57_code 76 = .ok (.ireturn, 1) := dd_at dd_Mo_operate 50 rfl
theorem d_Mo_operate_77 : decode prog_14_method_57_code 77 = .ok (.iload_n 1, 1) := dd_at dd_Mo_operate 51 rfl
theorem d_Mo_operate_78 : decode prog_14_method_57_code 78 = .ok (.iconst 2, 1) := dd_at dd_Mo_operate 52 rfl
theorem d_Mo_operate_79 : decode prog_14_method_57_code 79 = .ok (.if_icmp .ne (67), 3) := dd_at dd_Mo_operate 53 rfl
theorem d_Mo_operate_82 : decode prog_14_method_57_code 82 = .ok (.aload_n 0, 1) := dd_at dd_Mo_operate 54 rfl
theorem d_Mo_operate_83 : decode prog_14_method_57_code 83 = .ok (.dup, 1) := dd_at dd_Mo_operate 55 rfl
theorem d_Mo_operate_84 : decode prog_14_method_57_code 84 = .ok (.getfield 88, 3) := dd_at dd_Mo_operate 56 rfl
theorem d_Mo_operate_87 : decode prog_14_method_57_code 87 = .ok (.iconst 1, 1) := dd_at dd_Mo_operate 57 rfl
theorem d_Mo_operate_88 : decode prog_14_method_57_code 88 = .ok (.isub, 1) := dd_at dd_Mo_operate 58 rfl
theorem d_Mo_operate_89 : decode prog_14_method_57_code 89 = .ok (.putfield 88, 3) := dd_at dd_Mo_operate 59 rfl
theorem d_Mo_operate_92 : decode prog_14_method_57_code 92 = .ok (.aload_n 0, 1) := dd_at dd_Mo_operate 60 rfl
theorem d_Mo_operate_93 : decode prog_14_method_57_code 93 = .ok (.iload_n 3, 1) := dd_at dd_Mo_operate 61 rfl
theorem d_Mo_operate_94 : decode prog_14_method_57_code 94 = .ok (.aload_n 0, 1) := dd_at dd_Mo_operate 62 rfl
theorem d_Mo_operate_95 : decode prog_14_method_57_code 95 = .ok (.getfield 104, 3) := dd_at dd_Mo_operate 63 rfl
theorem d_Mo_operate_98 : decode prog_14_method_57_code 98 = .ok (.aload_n 0, 1) := dd_at dd_Mo_operate 64 rfl
theorem d_Mo_operate_99 : decode prog_14_method_57_code 99 = .ok (.getfield 88, 3) := dd_at dd_Mo_operate 65 rfl
theorem d_Mo_operate_102 : decode prog_14_method_57_code 102 = .ok (.iconst 1, 1) := dd_at dd_Mo_operate 66 rfl
theorem d_Mo_operate_103 : decode prog_14_method_57_code 103 = .ok (.isub, 1) := dd_at dd_Mo_operate 67 rfl
theorem d_Mo_operate_104 : decode prog_14_method_57_code 104 = .ok (.daload, 1) := dd_at dd_Mo_operate 68 rfl
theorem d_Mo_operate_105 : decode prog_14_method_57_code 105 = .ok (.aload_n 0, 1) := dd_at dd_Mo_operate 69 rfl
theorem d_Mo_operate_106 : decode prog_14_method_57_code 106 = .ok (.getfield 104, 3) := dd_at dd_Mo_operate 70 rfl
theorem d_Mo_operate_109 : decode prog_14_method_57_code 109 = .ok (.aload_n 0, 1) := dd_at dd_Mo_operate 71 rfl
theorem d_Mo_operate_110 : decode prog_14_method_57_code 110 = .ok (.getfield 88, 3) := dd_at dd_Mo_operate 72 rfl
theorem d_Mo_operate_113 : decode prog_14_method_57_code 113 = .ok (.daload, 1) := dd_at dd_Mo_operate 73 rfl
theorem d_Mo_operate_114 : decode prog_14_method_57_code 114 = .ok (.invokevirtual 368, 3) := dd_at dd_Mo_operate 74 rfl
theorem d_Mo_operate_117 : decode prog_14_method_57_code 117 = .ok (.istore 4, 2) := dd_at dd_Mo_operate 75 rfl
theorem d_Mo_operate_119 : decode prog_14_method_57_code 119 = .ok (.iload 4, 2) := dd_at dd_Mo_operate 76 rfl
theorem d_Mo_operate_121 : decode prog_14_method_57_code 121 = .ok (.ifCond .lt (21), 3) := dd_at dd_Mo_operate 77 rfl
theorem d_Mo_operate_124 : decode prog_14_method_57_code 124 = .ok (.aload_n 0, 1) := dd_at dd_Mo_operate 78 rfl
theorem d_Mo_operate_125 : decode prog_14_method_57_code 125 = .ok (.getfield 104, 3) := dd_at dd_Mo_operate 79 rfl
theorem d_Mo_operate_128 : decode prog_14_method_57_code 128 = .ok (.aload_n 0, 1) := dd_at dd_Mo_operate 80 rfl
theorem d_Mo_operate_129 : decode prog_14_method_57_code 129 = .ok (.getfield 88, 3) := dd_at dd_Mo_operate 81 rfl
theorem d_Mo_operate_132 : decode prog_14_method_57_code 132 = .ok (.iconst 1, 1) := dd_at dd_Mo_operate 82 rfl
theorem d_Mo_operate_133 : decode prog_14_method_57_code 133 = .ok (.isub, 1) := dd_at dd_Mo_operate 83 rfl
theorem d_Mo_operate_134 : decode prog_14_method_57_code 134 = .ok (.aload_n 0, 1) := dd_at dd_Mo_operate 84 rfl
theorem d_Mo_operate_135 : decode prog_14_method_57_code 135 = .ok (.getfield 119, 3) := dd_at dd_Mo_operate 85 rfl
theorem d_Mo_operate_138 : decode prog_14_method_57_code 138 = .ok (.iload 4, 2) := dd_at dd_Mo_operate 86 rfl
theorem d_Mo_operate_140 : decode prog_14_method_57_code 140 = .ok (.daload, 1) := dd_at dd_Mo_operate 87 rfl
theorem d_Mo_operate_141 : decode prog_14_method_57_code 141 = .ok (.dastore, 1) := dd_at dd_Mo_operate 88 rfl
theorem d_Mo_operate_142 : decode prog_14_method_57_code 142 = .ok (.iload_n 2, 1) := dd_at dd_Mo_operate 89 rfl
theorem d_Mo_operate_143 : decode prog_14_method_57_code 143 = .ok (.iconst 2, 1) := dd_at dd_Mo_operate 90 rfl
theorem d_Mo_operate_144 : decode prog_14_method_57_code 144 = .ok (.iadd, 1) := dd_at dd_Mo_operate 91 rfl
theorem d_Mo_operate_145 : decode prog_14_method_57_code 145 = .ok (.ireturn, 1) := dd_at dd_Mo_operate 92 rfl
theorem d_Mo_operate_146 : decode prog_14_method_57_code 146 = .ok (.iload_n 1, 1) := dd_at dd_Mo_operate 93 rfl
theorem d_Mo_operate_147 : decode prog_14_method_57_code 147 = .ok (.bipush (8), 2) := dd_at dd_Mo_operate 94 rfl
theorem d_Mo_operate_149 : decode prog_14_method_57_code 149 = .ok (.if_icmp .ge (53), 3) := dd_at dd_Mo_operate 95 rfl
theorem d_Mo_operate_152 : decode prog_14_method_57_code 152 = .ok (.aload_n 0, 1) := dd_at dd_Mo_operate 96 rfl
theorem d_Mo_operate_153 : decode prog_14_method_57_code 153 = .ok (.dup, 1) := dd_at dd_Mo_operate 97 rfl
theorem d_Mo_operate_154 : decode prog_14_method_57_code 154 = .ok (.getfield 88, 3) := dd_at dd_Mo_operate 98 rfl
theorem d_Mo_operate_157 : decode prog_14_method_57_code 157 = .ok (.iconst 1, 1) := dd_at dd_Mo_operate 99 rfl
theorem d_Mo_operate_158 : decode prog_14_method_57_code 158 = .ok (.isub, 1) := dd_at dd_Mo_operate 100 rfl
theorem d_Mo_operate_159 : decode prog_14_method_57_code 159 = .ok (.putfield 88, 3) := dd_at dd_Mo_operate 101 rfl
theorem d_Mo_operate_162 : decode prog_14_method_57_code 162 = .ok (.aload_n 0, 1) := dd_at dd_Mo_operate 102 rfl
theorem d_Mo_operate_163 : decode prog_14_method_57_code 163 = .ok (.getfield 104, 3) := dd_at dd_Mo_operate 103 rfl
theorem d_Mo_operate_166 : decode prog_14_method_57_code 166 = .ok (.aload_n 0, 1) := dd_at dd_Mo_operate 104 rfl
theorem d_Mo_operate_167 : decode prog_14_method_57_code 167 = .ok (.getfield 88, 3) := dd_at dd_Mo_operate 105 rfl
theorem d_Mo_operate_170 : decode prog_14_method_57_code 170 = .ok (.iconst 1, 1) := dd_at dd_Mo_operate 106 rfl
theorem d_Mo_operate_171 : decode prog_14_method_57_code 171 = .ok (.isub, 1) := dd_at dd_Mo_operate 107 rfl
theorem d_Mo_operate_172 : decode prog_14_method_57_code 172 = .ok (.aload_n 0, 1) := dd_at dd_Mo_operate 108 rfl
theorem d_Mo_operate_173 : decode prog_14_method_57_code 173 = .ok (.iload_n 1, 1) := dd_at dd_Mo_operate 109 rfl
theorem d_Mo_operate_174 : decode prog_14_method_57_code 174 = .ok (.aload_n 0, 1) := dd_at dd_Mo_operate 110 rfl
theorem d_Mo_operate_175 : decode prog_14_method_57_code 175 = .ok (.getfield 104, 3) := dd_at dd_Mo_operate 111 rfl
theorem d_Mo_operate_178 : decode prog_14_method_57_code 178 = .ok (.aload_n 0, 1) := dd_at dd_Mo_operate 112 rfl
theorem d_Mo_operate_179 : decode prog_14_method_57_code 179 = .ok (.getfield 88, 3) := dd_at dd_Mo_operate 113 rfl
theorem d_Mo_operate_182 : decode prog_14_method_57_code 182 = .ok (.iconst 1, 1) := dd_at dd_Mo_operate 114 rfl
theorem d_Mo_operate_183 : decode prog_14_method_57_code 183 = .ok (.isub, 1) := dd_at dd_Mo_operate 115 rfl
theorem d_Mo_operate_184 : decode prog_14_method_57_code 184 = .ok (.daload, 1) := dd_at dd_Mo_operate 116 rfl
theorem d_Mo_operate_185 : decode prog_14_method_57_code 185 = .ok (.aload_n 0, 1) := dd_at dd_Mo_operate 117 rfl
theorem d_Mo_operate_186 : decode prog_14_method_57_code 186 = .ok (.getfield 104, 3) := dd_at dd_Mo_operate 118 rfl
theorem d_Mo_operate_189 : decode prog_14_method_57_code 189 = .ok (.aload_n 0, 1) := dd_at dd_Mo_operate 119 rfl
theorem d_Mo_operate_190 : decode prog_14_method_57_code 190 = .ok (.getfield 88, 3) := dd_at dd_Mo_operate 120 rfl
theorem d_Mo_operate_193 : decode prog_14_method_57_code 193 = .ok (.daload, 1) := dd_at dd_Mo_operate 121 rfl
theorem d_Mo_operate_194 : decode prog_14_method_57_code 194 = .ok (.invokevirtual 372, 3) := dd_at dd_Mo_operate 122 rfl
theorem d_Mo_operate_197 : decode prog_14_method_57_code 197 = .ok (.dastore, 1) := dd_at dd_Mo_operate 123 rfl
theorem d_Mo_operate_198 : decode prog_14_method_57_code 198 = .ok (.iload_n 2, 1) := dd_at dd_Mo_operate 124 rfl
theorem d_Mo_operate_199 : decode prog_14_method_57_code 199 = .ok (.iconst 1, 1) := dd_at dd_Mo_operate 125 rfl
theorem d_Mo_operate_200 : decode prog_14_method_57_code 200 = .ok (.iadd, 1) := dd_at dd_Mo_operate 126 rfl
theorem d_Mo_operate_201 : decode prog_14_method_57_code 201 = .ok (.ireturn, 1) := dd_at dd_Mo_operate 127 rfl
theorem d_Mo_operate_202 : decode prog_14_method_57_code 202 = .ok (.iload_n 1, 1) := dd_at dd_Mo_operate 128 rfl
theorem d_Mo_operate_203 : decode prog_14_method_57_code 203 = .ok (.bipush (12), 2) := dd_at dd_Mo_operate 129 rfl
theorem d_Mo_operate_205 : decode prog_14_method_57_code 205 = .ok (.if_icmp .ge (34), 3) := dd_at dd_Mo_operate 130 rfl
theorem d_Mo_operate_208 : decode prog_14_method_57_code 208 = .ok (.aload_n 0, 1) := dd_at dd_Mo_operate 131 rfl
theorem d_Mo_operate_209 : decode prog_14_method_57_code 209 = .ok (.getfield 104, 3) := dd_at dd_Mo_operate 132 rfl
theorem d_Mo_operate_212 : decode prog_14_method_57_code 212 = .ok (.aload_n 0, 1) := dd_at dd_Mo_operate 133 rfl
theorem d_Mo_operate_213 : decode prog_14_method_57_code 213 = .ok (.getfield 88, 3) := dd_at dd_Mo_operate 134 rfl
theorem d_Mo_operate_216 : decode prog_14_method_57_code 216 = .ok (.iconst 1, 1) := dd_at dd_Mo_operate 135 rfl
theorem d_Mo_operate_217 : decode prog_14_method_57_code 217 = .ok (.isub, 1) := dd_at dd_Mo_operate 136 rfl
theorem d_Mo_operate_218 : decode prog_14_method_57_code 218 = .ok (.aload_n 0, 1) := dd_at dd_Mo_operate 137 rfl
theorem d_Mo_operate_219 : decode prog_14_method_57_code 219 = .ok (.iload_n 1, 1) := dd_at dd_Mo_operate 138 rfl
theorem d_Mo_operate_220 : decode prog_14_method_57_code 220 = .ok (.aload_n 0, 1) := dd_at dd_Mo_operate 139 rfl
theorem d_Mo_operate_221 : decode prog_14_method_57_code 221 = .ok (.getfield 104, 3) := dd_at dd_Mo_operate 140 rfl
theorem d_Mo_operate_224 : decode prog_14_method_57_code 224 = .ok (.aload_n 0, 1) := dd_at dd_Mo_operate 141 rfl
theorem d_Mo_operate_225 : decode prog_14_method_57_code 225 = .ok (.getfield 88, 3) := dd_at dd_Mo_operate 142 rfl
theorem d_Mo_operate_228 : decode prog_14_method_57_code 228 = .ok (.iconst 1, 1) := dd_at dd_Mo_operate 143 rfl
theorem d_Mo_operate_229 : decode prog_14_method_57_code 229 = .ok (.isub, 1) := dd_at dd_Mo_operate 144 rfl
theorem d_Mo_operate_230 : decode prog_14_method_57_code 230 = .ok (.daload, 1) := dd_at dd_Mo_operate 145 rfl
theorem d_Mo_operate_231 : decode prog_14_method_57_code 231 = .ok (.invokevirtual 376, 3) := dd_at dd_Mo_operate 146 rfl
theorem d_Mo_operate_234 : decode prog_14_method_57_code 234 = .ok (.dastore, 1) := dd_at dd_Mo_operate 147 rfl
theorem d_Mo_operate_235 : decode prog_14_method_57_code 235 = .ok (.iload_n 2, 1) := dd_at dd_Mo_operate 148 rfl
theorem d_Mo_operate_236 : decode prog_14_method_57_code 236 = .ok (.iconst 1, 1) := dd_at dd_Mo_operate 149 rfl
theorem d_Mo_operate_237 : decode prog_14_method_57_code 237 = .ok (.iadd, 1) := dd_at dd_Mo_operate 150 rfl
theorem d_Mo_operate_238 : decode prog_14_method_57_code 238 = .ok (.ireturn, 1) := dd_at dd_Mo_operate 151 rfl
theorem d_Mo_operate_239 : decode prog_14_method_57_code 239 = .ok (.iload_n 1, 1) := dd_at dd_Mo_operate 152 rfl
theorem d_Mo_operate_240 : decode prog_14_method_57_code 240 = .ok (.bipush (13), 2) := dd_at dd_Mo_operate 153 rfl
theorem d_Mo_operate_242 : decode prog_14_method_57_code 242 = .ok (.if_icmp .ne (12), 3) := dd_at dd_Mo_operate 154 rfl
theorem d_Mo_operate_245 : decode prog_14_method_57_code 245 = .ok (.aload_n 0, 1) := dd_at dd_Mo_operate 155 rfl
theorem d_Mo_operate_246 : decode prog_14_method_57_code 246 = .ok (.iload_n 3, 1) := dd_at dd_Mo_operate 156 rfl
theorem d_Mo_operate_247 : decode prog_14_method_57_code 247 = .ok (.iload_n 2, 1) := dd_at dd_Mo_operate 157 rfl
theorem d_Mo_operate_248 : decode prog_14_method_57_code 248 = .ok (.iconst 2, 1) := dd_at dd_Mo_operate 158 rfl
theorem d_Mo_operate_249 : decode prog_14_method_57_code 249 = .ok (.iadd, 1) := dd_at dd_Mo_operate 159 rfl
theorem d_Mo_operate_250 : decode prog_14_method_57_code 250 = .ok (.invokevirtual 380, 3) := dd_at dd_Mo_operate 160 rfl
theorem d_Mo_operate_253 : decode prog_14_method_57_code 253 = .ok (.ireturn, 1) := dd_at dd_Mo_operate 161 rfl
theorem d_Mo_operate_254 : decode prog_14_method_57_code 254 = .ok (.aload_n 0, 1) := dd_at dd_Mo_operate 162 rfl
theorem d_Mo_operate_255 : decode prog_14_method_57_code 255 = .ok (.getfield 125, 3) := dd_at dd_Mo_operate 163 rfl
theorem d_Mo_operate_258 : decode prog_14_method_57_code 258 = .ok (.iload_n 3, 1) := dd_at dd_Mo_operate 164 rfl
theorem d_Mo_operate_259 : decode prog_14_method_57_code 259 = .ok (.iaload, 1) := dd_at dd_Mo_operate 165 rfl
theorem d_Mo_operate_260 : decode prog_14_method_57_code 260 = .ok (.ifCond .ge (8), 3) := dd_at dd_Mo_operate 166 rfl
theorem d_Mo_operate_263 : decode prog_14_method_57_code 263 = .ok (.aload_n 0, 1) := dd_at dd_Mo_operate 167 rfl
theorem d_Mo_operate_264 : decode prog_14_method_57_code 264 = .ok (.iconst 3, 1) := dd_at dd_Mo_operate 168 rfl
theorem d_Mo_operate_265 : decode prog_14_method_57_code 265 = .ok (.putfield 94, 3) := dd_at dd_Mo_operate 169 rfl
theorem d_Mo_operate_268 : decode prog_14_method_57_code 268 = .ok (.iload_n 2, 1) := dd_at dd_Mo_operate 170 rfl
theorem d_Mo_operate_269 : decode prog_14_method_57_code 269 = .ok (.iconst 2, 1) := dd_at dd_Mo_operate 171 rfl
theorem d_Mo_operate_270 : decode prog_14_method_57_code 270 = .ok (.iadd, 1) := dd_at dd_Mo_operate 172 rfl
theorem d_Mo_operate_271 : decode prog_14_method_57_code 271 = .ok (.ireturn, 1) := dd_at dd_Mo_operate 173 rfl
def ld_Mo_work : List (Nat × Instr × Nat) := [(0, .iload_n 1, 1), (1, .istore_n 2, 1), (2, .aload_n 0, 1), (3, .iconst 0, 1), (4, .putfield 88, 3), (7, .aload_n 0, 1), (8, .iconst 0, 1), (9, .putfield 85, 3), (12, .aload_n 0, 1), (13, .getfield 94, 3), (16, .ifCond .ne (60), 3), (19, .aload_n 0, 1), (20, .getfield 55, 3), (23, .iload_n 2, 1), (24, .iaload, 1), (25, .bipush (14), 2), (27, .if_icmp .eq (18), 3), (30, .aload_n 0, 1), (31, .aload_n 0, 1), (32, .getfield 55, 3), (35, .iload_n 2, 1), (36, .iaload, 1), (37, .iload_n 2, 1), (38, .invokevirtual 383, 3), (41, .istore_n 2, 1), (42, .goto (-30), 3), (45, .aload_n 0, 1), (46, .getfield 85, 3), (49, .ifCond .ne (10), 3), (52, .aload_n 0, 1), (53, .getfield 104, 3), (56, .iconst 0, 1), (57, .daload, 1), (58, .dreturn, 1), (59, .aload_n 0, 1), (60, .invokevirtual 386, 3), (63, .aload_n 0, 1), (64, .getfield 143, 3), (67, .aload_n 0, 1), (68, .getfield 85, 3), (71, .iaload, 1), (72, .istore_n 2, 1), (73, .goto (-61), 3), (76, .aload_n 0, 1), (77, .getfield 85, 3), (80, .ifCond .le (10), 3), (83, .aload_n 0, 1), (84, .invokevirtual 386, 3), (87, .goto (-11), 3), (90, .dconst 0, 1), (91, .dreturn, 1)]
theorem dd_Mo_work : (ld_Mo_work).all (dOK prog_14_method_58_code) = true := by decide +kernel
theorem d_Mo_work_0 : decode prog_14_method_58_code 0 = .ok (.iload_n 1, 1) := dd_at dd_Mo_work 0 rfl
theorem d_Mo_work_1 : decode prog_14_method_58_code 1 = .ok (.istore_n 2, 1) := dd_at dd_Mo_work 1 rfl
theorem d_Mo_work_2 : decode prog_14_method_58_code 2 = .ok (.aload_n 0, 1) := dd_at dd_Mo_work 2 rfl
theorem d_Mo_work_3 : decode prog_14_method_58_code 3 = .ok (.iconst 0, 1) := dd_at dd_Mo_work 3 rfl
theorem d_Mo_work_4 : decode prog_14_method_58_code 4 = .ok (.putfield 88, 3) := dd_at dd_Mo_work 4 rfl
theorem d_Mo_work_7 : decode prog_14_method_58_code 7 = .ok (.aload_n 0, 1) := dd_at dd_Mo_work 5 rfl
theorem d_Mo_work_8 : decode prog_14_method_58_code 8 = .ok (.iconst 0, 1) := dd_at dd_Mo_work 6 rfl
theorem d_Mo_work_9 : decode prog_14_method_58_code 9 = .ok (.putfield 85, 3) := dd_at dd_Mo_work 7 rfl
theorem d_Mo_work_12 : decode prog_14_method_58_code 12 = .ok (.aload_n 0, 1) := dd_at dd_Mo_work 8 rfl
theorem d_Mo_work_13 : decode prog_14_method_58_code 13 = .ok (.getfield 94, 3) := dd_at dd_Mo_work 9 rfl
theorem d_Mo_work_16 : decode prog_14_method_58_code 16 = .ok (.ifCond .ne (60), 3) := dd_at dd_Mo_work 10 rfl
theorem d_Mo_work_19 : decode prog_14_method_58_code 19 = .ok (.aload_n 0, 1) := dd_at dd_Mo_work 11 rfl
theorem d_Mo_work_20 : decode prog_14_method_58_code 20 = .ok (.getfield 55, 3) := dd_at dd_Mo_work 12 rfl
theorem d_Mo_work_23 : decode prog_14_method_58_code 23 = .ok (.iload_n 2, 1) := dd_at dd_Mo_work 13 rfl
theorem d_Mo_work_24 : decode prog_14_method_58_code 24 = .ok (.iaload, 1) := dd_at dd_Mo_work 14 rfl
theorem d_Mo_work_25 : decode prog_14_method_58_code 25 = .ok (.bipush (14), 2) := dd_at dd_Mo_work 15 rfl
theorem d_Mo_work_27 : decode prog_14_method_58_code 27 = .ok (.if_icmp .eq (18), 3) := dd_at dd_Mo_work 16 rfl
theorem d_Mo_work_30 : decode prog_14_method_58_code 30 = .ok (.aload_n 0, 1) := dd_at dd_Mo_work 17 rfl
theorem d_Mo_work_31 : decode prog_14_method_58_code 31 = .ok (.aload_n 0, 1) := dd_at dd_Mo_work 18 rfl
theorem d_Mo_work_32 : decode prog_14_method_58_code 32 = .ok (.getfield 55, 3) := dd_at dd_Mo_work 19 rfl
theorem d_Mo_work_35 : decode prog_14_method_58_code 35 = .ok (.iload_n 2, 1) := dd_at dd_Mo_work 20 rfl
theorem d_Mo_work_36 : decode prog_14_method_58_code 36 = .ok (.iaload, 1) := dd_at dd_Mo_work 21 rfl
theorem d_Mo_work_37 : decode prog_14_method_58_code 37 = .ok (.iload_n 2, 1) := dd_at dd_Mo_work 22 rfl
theorem d_Mo_work_38 : decode prog_14_method_58_code 38 = .ok (.invokevirtual 383, 3) := dd_at dd_Mo_work 23 rfl
theorem d_Mo_work_41 : decode prog_14_method_58_code 41 = .ok (.istore_n 2, 1) := dd_at dd_Mo_work 24 rfl
theorem d_Mo_work_42 : decode prog_14_method_58_code 42 = .ok (.goto (-30), 3) := dd_at dd_Mo_work 25 rfl
theorem d_Mo_work_45 : decode prog_14_method_58_code 45 = .ok (.aload_n 0, 1) := dd_at dd_Mo_work 26 rfl
theorem d_Mo_work_46 : decode prog_14_method_58_code 46 = .ok (.getfield 85, 3) := dd_at dd_Mo_work 27 rfl
theorem d_Mo_work_49 : decode prog_14_method_58_code 49 = .ok (.ifCond .ne (10), 3) := dd_at dd_Mo_work 28 rfl
theorem d_Mo_work_52 : decode prog_14_method_58_code 52 = .ok (.aload_n 0, 1) := dd_at dd_Mo_work 29 rfl
theorem d_Mo_work_53 : decode prog_14_method_58_code 53 = .ok (.getfield 104, 3) := dd_at dd_Mo_work 30 rfl
theorem d_Mo_work_56 : decode prog_14_method_58_code 56 = .ok (.iconst 0, 1) := dd_at dd_Mo_work 31 rfl
theorem d_Mo_work_57 : decode prog_14_method_58_code 57 = .ok (.daload, 1) := dd_at dd_Mo_work 32 rfl
theorem d_Mo_work_58 : decode prog_14_method_58_code 58 = .ok (.dreturn, 1) := dd_at dd_Mo_work 33 rfl
theorem d_Mo_work_59 : decode prog_14_method_58_code 59 = .ok (.aload_n 0, 1) := dd_at dd_Mo_work 34 rfl
theorem d_Mo_work_60 : decode prog_14_method_58_code 60 = .ok (.invokevirtual 386, 3) := dd_at dd_Mo_work 35 rfl
theorem d_Mo_work_63 : decode prog_14_method_58_code 63 = .ok (.aload_n 0, 1) := dd_at dd_Mo_work 36 rfl
theorem d_Mo_work_64 : decode prog_14_method_58_code 64 = .ok (.getfield 143, 3) := dd_at dd_Mo_work 37 rfl
theorem d_Mo_work_67 : decode prog_14_method_58_code 67 = .ok (.aload_n 0, 1) := dd_at dd_Mo_work 38 rfl
theorem d_Mo_work_68 : decode prog_14_method_58_code 68 = .ok (.getfield 85, 3) := dd_at dd_Mo_work 39 rfl
theorem d_Mo_work_71 : decode prog_14_method_58_code 71 = .ok (.iaload, 1) := dd_at dd_Mo_work 40 rfl
theorem d_Mo_work_72 : decode prog_14_method_58_code 72 = .ok (.istore_n 2, 1) := dd_at dd_Mo_work 41 rfl
theorem d_Mo_work_73 : decode prog_14_method_58_code 73 = .ok (.goto (-61), 3) := dd_at dd_Mo_work 42 rfl
theorem d_Mo_work_76 : decode prog_14_method_58_code 76 = .ok (.aload_n 0, 1) := dd_at dd_Mo_work 43 rfl
theorem d_Mo_work_77 : decode prog_14_method_58_code 77 = .ok (.getfield 85, 3) := dd_at dd_Mo_work 44 rfl
theorem d_Mo_work_80 : decode prog_14_method_58_code 80 = .ok (.ifCond .le (10), 3) := dd_at dd_Mo_work 45 rfl
theorem d_Mo_work_83 : decode prog_14_method_58_code 83 = .ok (.aload_n 0, 1) := dd_at dd_Mo_work 46 rfl
theorem d_Mo_work_84 : decode prog_14_method_58_code 84 = .ok (.invokevirtual 386, 3) := dd_at dd_Mo_work 47 rfl
theorem d_Mo_work_87 : decode prog_14_method_58_code 87 = .ok (.goto (-11), 3) := dd_at dd_Mo_work 48 rfl
theorem d_Mo_work_90 : decode prog_14_method_58_code 90 = .ok (.dconst 0, 1) := dd_at dd_Mo_work 49 rfl
theorem d_Mo_work_91 : decode prog_14_method_58_code 91 = .ok (.dreturn, 1) := dd_at dd_Mo_work 50 rfl
def ld_Mo_nextSlot : List (Nat × Instr × Nat) := [(0, .iconst (-1), 1), (1, .istore_n 2, 1), (2, .iconst 0, 1), (3, .istore_n 3, 1), (4, .iload_n 3, 1), (5, .bipush (24), 2), (7, .if_icmp .ge (40), 3), (10, .aload_n 0, 1), (11, .getfield 42, 3), (14, .iload_n 3, 1), (15, .iaload, 1), (16, .iload_n 1, 1), (17, .if_icmp .le (24), 3), (20, .iload_n 2, 1), (21, .ifCond .lt (18), 3), (24, .aload_n 0, 1), (25, .getfield 42, 3), (28, .iload_n 3, 1), (29, .iaload, 1), (30, .aload_n 0, 1), (31, .getfield 42, 3), (34, .iload_n 2, 1), (35, .iaload, 1), (36, .if_icmp .ge (5), 3), (39, .iload_n 3, 1), (40, .istore_n 2, 1), (41, .iinc 3 (1), 3), (44, .goto (-40), 3), (47, .iload_n 2, 1), (48, .ireturn, 1)]
theorem dd_Mo_nextSlot : (ld_Mo_nextSlot).all (dOK prog_14_method_59_code) = true := by decide +kernel
theorem d_Mo_nextSlot_0 : decode prog_14_method_59_code 0 = .ok (.iconst (-1), 1) := dd_at dd_Mo_nextSlot 0 rfl
theorem d_Mo_nextSlot_1 : decode prog_14_method_59_code 1 = .ok (.istore_n 2, 1) := dd_at dd_Mo_nextSlot 1 rfl
theorem d_Mo_nextSlot_2 : decode prog_14_method_59_code 2 = .ok (.iconst 0, 1) := dd_at dd_Mo_nextSlot 2 rfl
theorem d_Mo_nextSlot_3 : decode prog_14_method_59_code 3 = .ok (.istore_n 3, 1) := dd_at dd_Mo_nextSlot 3 rfl
theorem d_Mo_nextSlot_4 : decode prog_14_method_59_code 4 = .ok (.iload_n 3, 1) := dd_at dd_Mo_nextSlot 4 rfl
theorem d_Mo_nextSlot_5 : decode prog_14_method_59_code 5 = .ok (.bipush (24), 2) := dd_at dd_Mo_nextSlot 5 rfl
theorem d_Mo_nextSlot_7 : decode prog_14_method_59_code 7 = .ok (.if_icmp .ge (40), 3) := dd_at dd_Mo_nextSlot 6 rfl
theorem d_Mo_nextSlot_10 : decode prog_14_method_59_code 10 = .ok (.aload_n 0, 1) := dd_at dd_Mo_nextSlot 7 rfl
theorem d_Mo_nextSlot_11 : decode prog_14_method_59_code 11 = .ok (.getfield 42, 3) := dd_at dd_Mo_nextSlot 8 rfl
theorem d_Mo_nextSlot_14 : decode prog_14_method_59_code 14 = .ok (.iload_n 3, 1) := dd_at dd_Mo_nextSlot 9 rfl
theorem d_Mo_nextSlot_15 : decode prog_14_method_59_code 15 = .ok (.iaload, 1) := dd_at dd_Mo_nextSlot 10 rfl
theorem d_Mo_nextSlot_16 : decode prog_14_method_59_code 16 = .ok (.iload_n 1, 1) := dd_at dd_Mo_nextSlot 11 rfl
theorem d_Mo_nextSlot_17 : decode prog_14_method_59_code 17 = .ok (.if_icmp .le (24), 3) := dd_at dd_Mo_nextSlot 12 rfl
theorem d_Mo_nextSlot_20 : decode prog_14_method_59_code 20 = .ok (.iload_n 2, 1) := dd_at dd_Mo_nextSlot 13 rfl
theorem d_Mo_nextSlot_21 : decode prog_14_method_59_code 21 = .ok (.ifCond .lt (18), 3) := dd_at dd_Mo_nextSlot 14 rfl
theorem d_Mo_nextSlot_24 : decode prog_14_method_59_code 24 = .ok (.aload_n 0, 1) := dd_at dd_Mo_nextSlot 15 rfl
theorem d_Mo_nextSlot_25 : decode prog_14_method_59_code 25 = .ok (.getfield 42, 3) := dd_at dd_Mo_nextSlot 16 rfl
theorem d_Mo_nextSlot_28 : decode prog_14_method_59_code 28 = .ok (.iload_n 3, 1) := dd_at dd_Mo_nextSlot 17 rfl
theorem d_Mo_nextSlot_29 : decode prog_14_method_59_code 29 = .ok (.iaload, 1) := dd_at dd_Mo_nextSlot 18 rfl
theorem d_Mo_nextSlot_30 : decode prog_14_method_59_code 30 = .ok (.aload_n 0, 1) := dd_at dd_Mo_nextSlot 19 rfl
theorem d_Mo_nextSlot_31 : decode prog_14_method_59_code 31 = .ok (.getfield 42, 3) := dd_at dd_Mo_nextSlot 20 rfl
theorem d_Mo_nextSlot_34 : decode prog_14_method_59_code 34 = .ok (.iload_n 2, 1) := dd_at dd_Mo_nextSlot 21 rfl
theorem d_Mo_nextSlot_35 : decode prog_14_method_59_code 35 = .ok (.iaload, 1) := dd_at dd_Mo_nextSlot 22 rfl
theorem d_Mo_nextSlot_36 : decode prog_14_method_59_code 36 = .ok (.if_icmp .ge (5), 3) := dd_at dd_Mo_nextSlot 23 rfl
theorem d_Mo_nextSlot_39 : decode prog_14_method_59_code 39 = .ok (.iload_n 3, 1) := dd_at dd_Mo_nextSlot 24 rfl
theorem d_Mo_nextSlot_40 : decode prog_14_method_59_code 40 = .ok (.istore_n 2, 1) := dd_at dd_Mo_nextSlot 25 rfl
theorem d_Mo_nextSlot_41 : decode prog_14_method_59_code 41 = .ok (.iinc 3 (1), 3) := dd_at dd_Mo_nextSlot 26 rfl
theorem d_Mo_nextSlot_44 : decode prog_14_method_59_code 44 = .ok (.goto (-40), 3) := dd_at dd_Mo_nextSlot 27 rfl
theorem d_Mo_nextSlot_47 : decode prog_14_method_59_code 47 = .ok (.iload_n 2, 1) := dd_at dd_Mo_nextSlot 28 rfl
theorem d_Mo_nextSlot_48 : decode prog_14_method_59_code 48 = .ok (.ireturn, 1) := dd_at dd_Mo_nextSlot 29 rfl
def ld_Mo_goTo : List (Nat × Instr × Nat) := [(0, .aload_n 0, 1), (1, .iload_n 1, 1), (2, .invokevirtual 329, 3), (5, .istore_n 2, 1), (6, .iload_n 2, 1), (7, .ifCond .ge (8), 3), (10, .aload_n 0, 1), (11, .iconst 3, 1), (12, .putfield 94, 3), (15, .iload_n 2, 1), (16, .ireturn, 1)]
theorem dd_Mo_goTo : (ld_Mo_goTo).all (dOK prog_14_method_60_code) = true := by decide +kernel
theorem d_Mo_goTo_0 : decode prog_14_method_60_code 0 = .ok (.aload_n 0, 1) := dd_at dd_Mo_goTo 0 rfl
theorem d_Mo_goTo_1 : decode prog_14_method_60_code 1 = .ok (.iload_n 1, 1) := dd_at dd_Mo_goTo 1 rfl
theorem d_Mo_goTo_2 : decode prog_14_method_60_code 2 = .ok (.invokevirtual 329, 3) := dd_at dd_Mo_goTo 2 rfl
theorem d_Mo_goTo_5 : decode prog_14_method_60_code 5 = .ok (.istore_n 2, 1) := dd_at dd_Mo_goTo 3 rfl
theorem d_Mo_goTo_6 : decode prog_14_method_60_code 6 = .ok (.iload_n 2, 1) := dd_at dd_Mo_goTo 4 rfl
theorem d_Mo_goTo_7 : decode prog_14_method_60_code 7 = .ok (.ifCond .ge (8), 3) := dd_at dd_Mo_goTo 5 rfl
theorem d_Mo_goTo_10 : decode prog_14_method_60_code 10 = .ok (.aload_n 0, 1) := dd_at dd_Mo_goTo 6 rfl
theorem d_Mo_goTo_11 : decode prog_14_method_60_code 11 = .ok (.iconst 3, 1) := dd_at dd_Mo_goTo 7 rfl
theorem d_Mo_goTo_12 : decode prog_14_method_60_code 12 = .ok (.putfield 94, 3) := dd_at dd_Mo_goTo 8 rfl
theorem d_Mo_goTo_15 : decode prog_14_method_60_code 15 = .ok (.iload_n 2, 1) := dd_at dd_Mo_goTo 9 rfl
theorem d_Mo_goTo_16 : decode prog_14_method_60_code 16 = .ok (.ireturn, 1) := dd_at dd_Mo_goTo 10 rfl
def ld_Mo_collect : List (Nat × Instr × Nat) := [(0, .aload_n 0, 1), (1, .iconst 0, 1), (2, .putfield 73, 3), (5, .aload_n 0, 1), (6, .iconst 0, 1), (7, .invokevirtual 389, 3), (10, .istore_n 1, 1), (11, .iload_n 1, 1), (12, .ifCond .lt (111), 3), (15, .aload_n 0, 1), (16, .getfield 46, 3), (19, .iload_n 1, 1), (20, .iaload, 1), (21, .bipush (10), 2), (23, .if_icmp .eq (6), 3), (26, .goto (83), 3), (29, .iconst 0, 1), (30, .istore_n 2, 1), (31, .iload_n 2, 1), (32, .aload_n 0, 1), (33, .getfield 49, 3), (36, .iload_n 1, 1), (37, .bipush (8), 2), (39, .imul, 1), (40, .iaload, 1), (41, .if_icmp .ge (68), 3), (44, .aload_n 0, 1), (45, .getfield 52, 3), (48, .iload_n 1, 1), (49, .iconst 4, 1), (50, .imul, 1), (51, .iaload, 1), (52, .iconst 4, 1), (53, .iload_n 2, 1), (54, .imul, 1), (55, .iadd, 1), (56, .istore_n 3, 1), (57, .aload_n 0, 1), (58, .iload_n 3, 1), (59, .iconst 2, 1), (60, .iadd, 1), (61, .invokevirtual 364, 3), (64, .dstore 4, 2), (66, .aload_n 0, 1), (67, .getfield 107, 3), (70, .aload_n 0, 1), (71, .getfield 73, 3), (74, .aload_n 0, 1), (75, .getfield 55, 3), (78, .iload_n 3, 1), (79, .iaload, 1), (80, .iconst 1, 1), (81, .if_icmp .ne (9), 3), (84, .dload 4, 2), (86, .dneg, 1), (87, .goto (5), 3), (90, .dload 4, 2), (92, .dastore, 1), (93, .aload_n 0, 1), (94, .dup, 1), (95, .getfield 73, 3), (98, .iconst 1, 1), (99, .iadd, 1), (100, .putfield 73, 3), (103, .iinc 2 (1), 3), (106, .goto (-75), 3), (109, .aload_n 0, 1), (110, .aload_n 0, 1), (111, .getfield 42, 3), (114, .iload_n 1, 1), (115, .iaload, 1), (116, .invokevirtual 389, 3), (119, .istore_n 1, 1), (120, .goto (-109), 3), (123, .return_, 1)]
theorem dd_Mo_collect : (ld_Mo_collect).all (dOK prog_14_method_61_code) = true := by decide +kernel
theorem d_Mo_collect_0 : decode prog_14_method_61_code 0 = .ok (.aload_n 0, 1) := dd_at dd_Mo_collect 0 rfl
theorem d_Mo_collect_1 : decode prog_14_method_61_code 1 = .ok (.iconst 0, 1) := dd_at dd_Mo_collect 1 rfl
theorem d_Mo_collect_2 : decode prog_14_method_61_code 2 = .ok (.putfield 73, 3) := dd_at dd_Mo_collect 2 rfl
theorem d_Mo_collect_5 : decode prog_14_method_61_code 5 = .ok (.aload_n 0, 1) := dd_at dd_Mo_collect 3 rfl
theorem d_Mo_collect_6 : decode prog_14_method_61_code 6 = .ok (.iconst 0, 1) := dd_at dd_Mo_collect 4 rfl
theorem d_Mo_collect_7 : decode prog_14_method_61_code 7 = .ok (.invokevirtual 389, 3) := dd_at dd_Mo_collect 5 rfl
theorem d_Mo_collect_10 : decode prog_14_method_61_code 10 = .ok (.istore_n 1, 1) := dd_at dd_Mo_collect 6 rfl
theorem d_Mo_collect_11 : decode prog_14_method_61_code 11 = .ok (.iload_n 1, 1) := dd_at dd_Mo_collect 7 rfl
theorem d_Mo_collect_12 : decode prog_14_method_61_code 12 = .ok (.ifCond .lt (111), 3) := dd_at dd_Mo_collect 8 rfl
theorem d_Mo_collect_15 : decode prog_14_method_61_code 15 = .ok (.aload_n 0, 1) := dd_at dd_Mo_collect 9 rfl
theorem d_Mo_collect_16 : decode prog_14_method_61_code 16 = .ok (.getfield 46, 3) := dd_at dd_Mo_collect 10 rfl
theorem d_Mo_collect_19 : decode prog_14_method_61_code 19 = .ok (.iload_n 1, 1) := dd_at dd_Mo_collect 11 rfl
theorem d_Mo_collect_20 : decode prog_14_method_61_code 20 = .ok (.iaload, 1) := dd_at dd_Mo_collect 12 rfl
theorem d_Mo_collect_21 : decode prog_14_method_61_code 21 = .ok (.bipush (10), 2) := dd_at dd_Mo_collect 13 rfl
theorem d_Mo_collect_23 : decode prog_14_method_61_code 23 = .ok (.if_icmp .eq (6), 3) := dd_at dd_Mo_collect 14 rfl
theorem d_Mo_collect_26 : decode prog_14_method_61_code 26 = .ok (.goto (83), 3) := dd_at dd_Mo_collect 15 rfl
theorem d_Mo_collect_29 : decode prog_14_method_61_code 29 = .ok (.iconst 0, 1) := dd_at dd_Mo_collect 16 rfl
theorem d_Mo_collect_30 : decode prog_14_method_61_code 30 = .ok (.istore_n 2, 1) := dd_at dd_Mo_collect 17 rfl
theorem d_Mo_collect_31 : decode prog_14_method_61_code 31 = .ok (.iload_n 2, 1) := dd_at dd_Mo_collect 18 rfl
theorem d_Mo_collect_32 : decode prog_14_method_61_code 32 = .ok (.aload_n 0, 1) := dd_at dd_Mo_collect 19 rfl
theorem d_Mo_collect_33 : decode prog_14_method_61_code 33 = .ok (.getfield 49, 3) := dd_at dd_Mo_collect 20 rfl
theorem d_Mo_collect_36 : decode prog_14_method_61_code 36 = .ok (.iload_n 1, 1) := dd_at dd_Mo_collect 21 rfl
theorem d_Mo_collect_37 : decode prog_14_method_61_code 37 = .ok (.bipush (8), 2) := dd_at dd_Mo_collect 22 rfl
theorem d_Mo_collect_39 : decode prog_14_method_61_code 39 = .ok (.imul, 1) := dd_at dd_Mo_collect 23 rfl
theorem d_Mo_collect_40 : decode prog_14_method_61_code 40 = .ok (.iaload, 1) := dd_at dd_Mo_collect 24 rfl
theorem d_Mo_collect_41 : decode prog_14_method_61_code 41 = .ok (.if_icmp .ge (68), 3) := dd_at dd_Mo_collect 25 rfl
theorem d_Mo_collect_44 : decode prog_14_method_61_code 44 = .ok (.aload_n 0, 1) := dd_at dd_Mo_collect 26 rfl
theorem d_Mo_collect_45 : decode prog_14_method_61_code 45 = .ok (.getfield 52, 3) := dd_at dd_Mo_collect 27 rfl
theorem d_Mo_collect_48 : decode prog_14_method_61_code 48 = .ok (.iload_n 1, 1) := dd_at dd_Mo_collect 28 rfl
theorem d_Mo_collect_49 : decode prog_14_method_61_code 49 = .ok (.iconst 4, 1) := dd_at dd_Mo_collect 29 rfl
theorem d_Mo_collect_50 : decode prog_14_method_61_code 50 = .ok (.imul, 1) := dd_at dd_Mo_collect 30 rfl
theorem d_Mo_collect_51 : decode prog_14_method_61_code 51 = .ok (.iaload, 1) := dd_at dd_Mo_collect 31 rfl
theorem d_Mo_collect_52 : decode prog_14_method_61_code 52 = .ok (.iconst 4, 1) := dd_at dd_Mo_collect 32 rfl
theorem d_Mo_collect_53 : decode prog_14_method_61_code 53 = .ok (.iload_n 2, 1) := dd_at dd_Mo_collect 33 rfl
theorem d_Mo_collect_54 : decode prog_14_method_61_code 54 = .ok (.imul, 1) := dd_at dd_Mo_collect 34 rfl
theorem d_Mo_collect_55 : decode prog_14_method_61_code 55 = .ok (.iadd, 1) := dd_at dd_Mo_collect 35 rfl
theorem d_Mo_collect_56 : decode prog_14_method_61_code 56 = .ok (.istore_n 3, 1) := dd_at dd_Mo_collect 36 rfl
theorem d_Mo_collect_57 : decode prog_14_method_61_code 57 = .ok (.aload_n 0, 1) := dd_at dd_Mo_collect 37 rfl
theorem d_Mo_collect_58 : decode prog_14_method_61_code 58 = .ok (.iload_n 3, 1) := dd_at dd_Mo_collect 38 rfl
theorem d_Mo_collect_59 : decode prog_14_method_61_code 59 = .ok (.iconst 2, 1) := dd_at dd_Mo_collect 39 rfl
theorem d_Mo_collect_60 : decode prog_14_method_61_code 60 = .ok (.iadd, 1) := dd_at dd_Mo_collect 40 rfl
theorem d_Mo_collect_61 : decode prog_14_method_61_code 61 = .ok (.invokevirtual 364, 3) := dd_at dd_Mo_collect 41 rfl
theorem d_Mo_collect_64 : decode prog_14_method_61_code 64 = .ok (.dstore 4, 2) := dd_at dd_Mo_collect 42 rfl
theorem d_Mo_collect_66 : decode prog_14_method_61_code 66 = .ok (.aload_n 0, 1) := dd_at dd_Mo_collect 43 rfl
theorem d_Mo_collect_67 : decode prog_14_method_61_code 67 = .ok (.getfield 107, 3) := dd_at dd_Mo_collect 44 rfl
theorem d_Mo_collect_70 : decode prog_14_method_61_code 70 = .ok (.aload_n 0, 1) := dd_at dd_Mo_collect 45 rfl
theorem d_Mo_collect_71 : decode prog_14_method_61_code 71 = .ok (.getfield 73, 3) := dd_at dd_Mo_collect 46 rfl
theorem d_Mo_collect_74 : decode prog_14_method_61_code 74 = .ok (.aload_n 0, 1) := dd_at dd_Mo_collect 47 rfl
theorem d_Mo_collect_75 : decode prog_14_method_61_code 75 = .ok (.getfield 55, 3) := dd_at dd_Mo_collect 48 rfl
theorem d_Mo_collect_78 : decode prog_14_method_61_code 78 = .ok (.iload_n 3, 1) := dd_at dd_Mo_collect 49 rfl
theorem d_Mo_collect_79 : decode prog_14_method_61_code 79 = .ok (.iaload, 1) := dd_at dd_Mo_collect 50 rfl
theorem d_Mo_collect_80 : decode prog_14_method_61_code 80 = .ok (.iconst 1, 1) := dd_at dd_Mo_collect 51 rfl
theorem d_Mo_collect_81 : decode prog_14_method_61_code 81 = .ok (.if_icmp .ne (9), 3) := dd_at dd_Mo_collect 52 rfl
theorem d_Mo_collect_84 : decode prog_14_method_61_code 84 = .ok (.dload 4, 2) := dd_at dd_Mo_collect 53 rfl
theorem d_Mo_collect_86 : decode prog_14_method_61_code 86 = .ok (.dneg, 1) := dd_at dd_Mo_collect 54 rfl
theorem d_Mo_collect_87 : decode prog_14_method_61_code 87 = .ok (.goto (5), 3) := dd_at dd_Mo_collect 55 rfl
theorem d_Mo_collect_90 : decode prog_14_method_61_code 90 = .ok (.dload 4, 2) := dd_at dd_Mo_collect 56 rfl
theorem d_Mo_collect_92 : decode prog_14_method_61_code 92 = .ok (.dastore, 1) := dd_at dd_Mo_collect 57 rfl
theorem d_Mo_collect_93 : decode prog_14_method_61_code 93 = .ok (.aload_n 0, 1) := dd_at dd_Mo_collect 58 rfl
theorem d_Mo_collect_94 : decode prog_14_method_61_code 94 = .ok (.dup, 1) := dd_at dd_Mo_collect 59 rfl
theorem d_Mo_collect_95 : decode prog_14_method_61_code 95 = .ok (.getfield 73, 3) := dd_at dd_Mo_collect 60 rfl
theorem d_Mo_collect_98 : decode prog_14_method_61_code 98 = .ok (.iconst 1, 1) := dd_at dd_Mo_collect 61 rfl
theorem d_Mo_collect_99 : decode prog_14_method_61_code 99 = .ok (.iadd, 1) := dd_at dd_Mo_collect 62 rfl
theorem d_Mo_collect_100 : decode prog_14_method_61_code 100 = .ok (.putfield 73, 3) := dd_at dd_Mo_collect 63 rfl
theorem d_Mo_collect_103 : decode prog_14_method_61_code 103 = .ok (.iinc 2 (1), 3) := dd_at dd_Mo_collect 64 rfl
theorem d_Mo_collect_106 : decode prog_14_method_61_code 106 = .ok (.goto (-75), 3) := dd_at dd_Mo_collect 65 rfl
theorem d_Mo_collect_109 : decode prog_14_method_61_code 109 = .ok (.aload_n 0, 1) := dd_at dd_Mo_collect 66 rfl
theorem d_Mo_collect_110 : decode prog_14_method_61_code 110 = .ok (.aload_n 0, 1) := dd_at dd_Mo_collect 67 rfl
theorem d_Mo_collect_111 : decode prog_14_method_61_code 111 = .ok (.getfield 42, 3) := dd_at dd_Mo_collect 68 rfl
theorem d_Mo_collect_114 : decode prog_14_method_61_code 114 = .ok (.iload_n 1, 1) := dd_at dd_Mo_collect 69 rfl
theorem d_Mo_collect_115 : decode prog_14_method_61_code 115 = .ok (.iaload, 1) := dd_at dd_Mo_collect 70 rfl
theorem d_Mo_collect_116 : decode prog_14_method_61_code 116 = .ok (.invokevirtual 389, 3) := dd_at dd_Mo_collect 71 rfl
theorem d_Mo_collect_119 : decode prog_14_method_61_code 119 = .ok (.istore_n 1, 1) := dd_at dd_Mo_collect 72 rfl
theorem d_Mo_collect_120 : decode prog_14_method_61_code 120 = .ok (.goto (-109), 3) := dd_at dd_Mo_collect 73 rfl
theorem d_Mo_collect_123 : decode prog_14_method_61_code 123 = .ok (.return_, 1) := dd_at dd_Mo_collect 74 rfl
def ld_Mo_assign : List (Nat × Instr × Nat) := [(0, .aload_n 0, 1), (1, .getfield 49, 3), (4, .iload_n 1, 1), (5, .bipush (8), 2), (7, .imul, 1), (8, .iaload, 1), (9, .istore_n 3, 1), (10, .iload_n 3, 1), (11, .istore 4, 2), (13, .iload_n 3, 1), (14, .bipush (25), 2), (16, .if_icmp .le (65), 3), (19, .aload_n 0, 1), (20, .aload_n 0, 1), (21, .getfield 52, 3), (24, .iload_n 1, 1), (25, .iconst 4, 1), (26, .imul, 1), (27, .iaload, 1), (28, .invokevirtual 392, 3), (31, .dstore 5, 2), (33, .aload_n 0, 1), (34, .getfield 94, 3), (37, .ifCond .ne (20), 3), (40, .aload_n 0, 1), (41, .aload_n 0, 1), (42, .getfield 52, 3), (45, .iload_n 1, 1), (46, .iconst 4, 1), (47, .imul, 1), (48, .iconst 1, 1), (49, .iadd, 1), (50, .iaload, 1), (51, .invokevirtual 392, 3), (54, .goto (4), 3), (57, .dconst 0, 1), (58, .dstore 7, 2), (60, .aload_n 0, 1), (61, .getfield 94, 3), (64, .ifCond .ne (17), 3), (67, .aload_n 0, 1), (68, .iload_n 3, 1), (69, .bipush (26), 2), (71, .isub, 1), (72, .dload 5, 2), (74, .dload 7, 2), (76, .invokevirtual 368, 3), (79, .istore 4, 2), (81, .aload_n 0, 1), (82, .getfield 94, 3), (85, .ifCond .eq (4), 3), (88, .return_, 1), (89, .dconst 0, 1), (90, .dstore 5, 2), (92, .iload_n 2, 1), (93, .ifCond .ne (22), 3), (96, .aload_n 0, 1), (97, .aload_n 0, 1), (98, .getfield 52, 3), (101, .iload_n 1, 1), (102, .iconst 4, 1), (103, .imul, 1), (104, .iconst 2, 1), (105, .iadd, 1), (106, .iaload, 1), (107, .invokevirtual 392, 3), (110, .dstore 5, 2), (112, .goto (43), 3), (115, .aload_n 0, 1), (116, .getfield 70, 3), (119, .aload_n 0, 1), (120, .getfield 73, 3), (123, .if_icmp .ne (11), 3), (126, .aload_n 0, 1), (127, .iconst 3, 1), (128, .putfield 94, 3), (131, .goto (24), 3), (134, .aload_n 0, 1), (135, .getfield 107, 3), (138, .aload_n 0, 1), (139, .getfield 70, 3), (142, .daload, 1), (143, .dstore 5, 2), (145, .aload_n 0, 1), (146, .dup, 1), (147, .getfield 70, 3), (150, .iconst 1, 1), (151, .iadd, 1), (152, .putfield 70, 3), (155, .aload_n 0, 1), (156, .getfield 94, 3), (159, .ifCond .eq (4), 3), (162, .return_, 1), (163, .iload_n 3, 1), (164, .bipush (25), 2), (166, .if_icmp .le (15), 3), (169, .aload_n 0, 1), (170, .getfield 119, 3), (173, .iload 4, 2), (175, .dload 5, 2), (177, .dastore, 1), (178, .goto (11), 3), (181, .aload_n 0, 1), (182, .getfield 101, 3), (185, .iload_n 3, 1), (186, .dload 5, 2), (188, .dastore, 1), (189, .return_, 1)]
theorem dd_Mo_assign : (ld_Mo_assign).all (dOK prog_14_method_62_code) = true := by decide +kernel
theorem d_Mo_assign_0 : decode prog_14_method_62_code 0 = .ok (.aload_n 0, 1) := dd_at dd_Mo_assign 0 rfl
theorem d_Mo_assign_1 : decode prog_14_method_62_code 1 = .ok (.getfield 49, 3) := dd_at dd_Mo_assign 1 rfl
theorem d_Mo_assign_4 : decode prog_14_method_62_code 4 = .ok (.iload_n 1, 1) := dd_at dd_Mo_assign 2 rfl
theorem d_Mo_assign_5 : decode prog_14_method_62_code 5 = .ok (.bipush (8), 2) := dd_at dd_Mo_assign 3 rfl
theorem d_Mo_assign_7 : decode prog_14_method_62_code 7 = .ok (.imul, 1) := dd_at dd_Mo_assign 4 rfl
theorem d_Mo_assign_8 : decode prog_14_method_62_code 8 = .ok (.iaload, 1) := dd_at dd_Mo_assign 5 rfl
theorem d_Mo_assign_9 : decode prog_14_method_62_code 9 = .ok (.istore_n 3, 1) := dd_at dd_Mo_assign 6 rfl
theorem d_Mo_assign_10 : decode prog_14_method_62_code 10 = .ok (.iload_n 3, 1) := dd_at dd_Mo_assign 7 rfl
theorem d_Mo_assign_11 : decode prog_14_method_62_code 11 = .ok (.istore 4, 2) := dd_at dd_Mo_assign 8 rfl
theorem d_Mo_assign_13 : decode prog_14_method_62_code 13 = .ok (.iload_n 3, 1) := dd_at dd_Mo_assign 9 rfl
theorem d_Mo_assign_14 : decode prog_14_method_62_code 14 = .ok (.bipush (25), 2) := dd_at dd_Mo_assign 10 rfl
theorem d_Mo_assign_16 : decode prog_14_method_62_code 16 = .ok (.if_icmp .le (65), 3) := dd_at dd_Mo_assign 11 rfl
theorem d_Mo_assign_19 : decode prog_14_method_62_code 19 = .ok (.aload_n 0, 1) := dd_at dd_Mo_assign 12 rfl
theorem d_Mo_assign_20 : decode prog_14_method_62_code 20 = .ok (.aload_n 0, 1) := dd_at dd_Mo_assign 13 rfl
theorem d_Mo_assign_21 : decode prog_14_method_62_code 21 = .ok (.getfield 52, 3) := dd_at dd_Mo_assign 14 rfl
theorem d_Mo_assign_24 : decode prog_14_method_62_code 24 = .ok (.iload_n 1, 1) := dd_at dd_Mo_assign 15 rfl
theorem d_Mo_assign_25 : decode prog_14_method_62_code 25 = .ok (.iconst 4, 1) := dd_at dd_Mo_assign 16 rfl
theorem d_Mo_assign_26 : decode prog_14_method_62_code 26 = .ok (.imul, 1) := dd_at dd_Mo_assign 17 rfl
theorem d_Mo_assign_27 : decode prog_14_method_62_code 27 = .ok (.iaload, 1) := dd_at dd_Mo_assign 18 rfl
theorem d_Mo_assign_28 : decode prog_14_method_62_code 28 = .ok (.invokevirtual 392, 3) := dd_at dd_Mo_assign 19 rfl
theorem d_Mo_assign_31 : decode prog_14_method_62_code 31 = .ok (.dstore 5, 2) := dd_at dd_Mo_assign 20 rfl
theorem d_Mo_assign_33 : decode prog_14_method_62_code 33 = .ok (.aload_n 0, 1) := dd_at dd_Mo_assign 21 rfl
theorem d_Mo_assign_34 : decode prog_14_method_62_code 34 = .ok (.getfield 94, 3) := dd_at dd_Mo_assign 22 rfl
theorem d_Mo_assign_37 : decode prog_14_method_62_code 37 = .ok (.ifCond .ne (20), 3) := dd_at dd_Mo_assign 23 rfl
theorem d_Mo_assign_40 : decode prog_14_method_62_code 40 = .ok (.aload_n 0, 1) := dd_at dd_Mo_assign 24 rfl
theorem d_Mo_assign_41 : decode prog_14_method_62_code 41 = .ok (.aload_n 0, 1) := dd_at dd_Mo_assign 25 rfl
theorem d_Mo_assign_42 : decode prog_14_method_62_code 42 = .ok (.getfield 52, 3) := dd_at dd_Mo_assign 26 rfl
theorem d_Mo_assign_45 : decode prog_14_method_62_code 45 = .ok (.iload_n 1, 1) := dd_at dd_Mo_assign 27 rfl
theorem d_Mo_assign_46 : decode prog_14_method_62_code 46 = .ok (.iconst 4, 1) := dd_at dd_Mo_assign 28 rfl
theorem d_Mo_assign_47 : decode prog_14_method_62_code 47 = .ok (.imul, 1) := dd_at dd_Mo_assign 29 rfl
theorem d_Mo_assign_48 : decode prog_14_method_62_code 48 = .ok (.iconst 1, 1) := dd_at dd_Mo_assign 30 rfl
theorem d_Mo_assign_49 : decode prog_14_method_62_code 49 = .ok (.iadd, 1) := dd_at dd_Mo_assign 31 rfl
theorem d_Mo_assign_50 : decode prog_14_method_62_code 50 = .ok (.iaload, 1) := dd_at dd_Mo_assign 32 rfl
theorem d_Mo_assign_51 : decode prog_14_method_62_code 51 = .ok (.invokevirtual 392, 3) := dd_at dd_Mo_assign 33 rfl
theorem d_Mo_assign_54 : decode prog_14_method_62_code 54 = .ok (.goto (4), 3) := dd_at dd_Mo_assign 34 rfl
theorem d_Mo_assign_57 : decode prog_14_method_62_code 57 = .ok (.dconst 0, 1) := dd_at dd_Mo_assign 35 rfl
theorem d_Mo_assign_58 : decode prog_14_method_62_code 58 = .ok (.dstore 7, 2) := dd_at dd_Mo_assign 36 rfl
theorem d_Mo_assign_60 : decode prog_14_method_62_code 60 = .ok (.aload_n 0, 1) := dd_at dd_Mo_assign 37 rfl
theorem d_Mo_assign_61 : decode prog_14_method_62_code 61 = .ok (.getfield 94, 3) := dd_at dd_Mo_assign 38 rfl
theorem d_Mo_assign_64 : decode prog_14_method_62_code 64 = .ok (.ifCond .ne (17), 3) := dd_at dd_Mo_assign 39 rfl
theorem d_Mo_assign_67 : decode prog_14_method_62_code 67 = .ok (.aload_n 0, 1) := dd_at dd_Mo_assign 40 rfl
theorem d_Mo_assign_68 : decode prog_14_method_62_code 68 = .ok (.iload_n 3, 1) := dd_at dd_Mo_assign 41 rfl
theorem d_Mo_assign_69 : decode prog_14_method_62_code 69 = .ok (.bipush (26), 2) := dd_at dd_Mo_assign 42 rfl
theorem d_Mo_assign_71 : decode prog_14_method_62_code 71 = .ok (.isub, 1) := dd_at dd_Mo_assign 43 rfl
theorem d_Mo_assign_72 : decode prog_14_method_62_code 72 = .ok (.dload 5, 2) := dd_at dd_Mo_assign 44 rfl
theorem d_Mo_assign_74 : decode prog_14_method_62_code 74 = .ok (.dload 7, 2) := dd_at dd_Mo_assign 45 rfl
theorem d_Mo_assign_76 : decode prog_14_method_62_code 76 = .ok (.invokevirtual 368, 3) := dd_at dd_Mo_assign 46 rfl
theorem d_Mo_assign_79 : decode prog_14_method_62_code 79 = .ok (.istore 4, 2) := dd_at dd_Mo_assign 47 rfl
theorem d_Mo_assign_81 : decode prog_14_method_62_code 81 = .ok (.aload_n 0, 1) := dd_at dd_Mo_assign 48 rfl
theorem d_Mo_assign_82 : decode prog_14_method_62_code 82 = .ok (.getfield 94, 3) := dd_at dd_Mo_assign 49 rfl
theorem d_Mo_assign_85 : decode prog_14_method_62_code 85 = .ok (.ifCond .eq (4), 3) := dd_at dd_Mo_assign 50 rfl
theorem d_Mo_assign_88 : decode prog_14_method_62_code 88 = .ok (.return_, 1) := dd_at dd_Mo_assign 51 rfl
theorem d_Mo_assign_89 : decode prog_14_method_62_code 89 = .ok (.dconst 0, 1) := dd_at dd_Mo_assign 52 rfl
theorem d_Mo_assign_90 : decode prog_14_method_62_code 90 = .ok (.dstore 5, 2) := dd_at dd_Mo_assign 53 rfl
theorem d_Mo_assign_92 : decode prog_14_method_62_code 92 = .ok (.iload_n 2, 1) := dd_at dd_Mo_assign 54 rfl
theorem d_Mo_assign_93 : decode prog_14_method_62_code 93 = .ok (.ifCond .ne (22), 3) := dd_at dd_Mo_assign 55 rfl
theorem d_Mo_assign_96 : decode prog_14_method_62_code 96 = .ok (.aload_n 0, 1) := dd_at dd_Mo_assign 56 rfl
theorem d_Mo_assign_97 : decode prog_14_method_62_code 97 = .ok (.aload_n 0, 1) := dd_at dd_Mo_assign 57 rfl
theorem d_Mo_assign_98 : decode prog_14_method_62_code 98 = .ok (.getfield 52, 3) := dd_at dd_Mo_assign 58 rfl
theorem d_Mo_assign_101 : decode prog_14_method_62_code 101 = .ok (.iload_n 1, 1) := dd_at dd_Mo_assign 59 rfl
theorem d_Mo_assign_102 : decode prog_14_method_62_code 102 = .ok (.iconst 4, 1) := dd_at dd_Mo_assign 60 rfl
theorem d_Mo_assign_103 : decode prog_14_method_62_code 103 = .ok (.imul, 1) := dd_at dd_Mo_assign 61 rfl
theorem d_Mo_assign_104 : decode prog_14_method_62_code 104 = .ok (.iconst 2, 1) := dd_at dd_Mo_assign 62 rfl
theorem d_Mo_assign_105 : decode prog_14_method_62_code 105 = .ok (.iadd, 1) := dd_at dd_Mo_assign 63 rfl
theorem d_Mo_assign_106 : decode prog_14_method_62_code 106 = .ok (.iaload, 1) := dd_at dd_Mo_assign 64 rfl
theorem d_Mo_assign_107 : decode prog_14_method_62_code 107 = .ok (.invokevirtual 392, 3) := dd_at dd_Mo_assign 65 rfl
theorem d_Mo_assign_110 : decode prog_14_method_62_code 110 = .ok (.dstore 5, 2) := dd_at dd_Mo_assign 66 rfl
theorem d_Mo_assign_112 : decode prog_14_method_62_code 112 = .ok (.goto (43), 3) := dd_at dd_Mo_assign 67 rfl
theorem d_Mo_assign_115 : decode prog_14_method_62_code 115 = .ok (.aload_n 0, 1) := dd_at dd_Mo_assign 68 rfl
theorem d_Mo_assign_116 : decode prog_14_method_62_code 116 = .ok (.getfield 70, 3) := dd_at dd_Mo_assign 69 rfl
theorem d_Mo_assign_119 : decode prog_14_method_62_code 119 = .ok (.aload_n 0, 1) := dd_at dd_Mo_assign 70 rfl
theorem d_Mo_assign_120 : decode prog_14_method_62_code 120 = .ok (.getfield 73, 3) := dd_at dd_Mo_assign 71 rfl
theorem d_Mo_assign_123 : decode prog_14_method_62_code 123 = .ok (.if_icmp .ne (11), 3) := dd_at dd_Mo_assign 72 rfl
theorem d_Mo_assign_126 : decode prog_14_method_62_code 126 = .ok (.aload_n 0, 1) := dd_at dd_Mo_assign 73 rfl
theorem d_Mo_assign_127 : decode prog_14_method_62_code 127 = .ok (.iconst 3, 1) := dd_at dd_Mo_assign 74 rfl
theorem d_Mo_assign_128 : decode prog_14_method_62_code 128 = .ok (.putfield 94, 3) := dd_at dd_Mo_assign 75 rfl
theorem d_Mo_assign_131 : decode prog_14_method_62_code 131 = .ok (.goto (24), 3) := dd_at dd_Mo_assign 76 rfl
theorem d_Mo_assign_134 : decode prog_14_method_62_code 134 = .ok (.aload_n 0, 1) := dd_at dd_Mo_assign 77 rfl
theorem d_Mo_assign_135 : decode prog_14_method_62_code 135 = .ok (.getfield 107, 3) := dd_at dd_Mo_assign 78 rfl
theorem d_Mo_assign_138 : decode prog_14_method_62_code 138 = .ok (.aload_n 0, 1) := dd_at dd_Mo_assign 79 rfl
theorem d_Mo_assign_139 : decode prog_14_method_62_code 139 = .ok (.getfield 70, 3) := dd_at dd_Mo_assign 80 rfl
theorem d_Mo_assign_142 : decode prog_14_method_62_code 142 = .ok (.daload, 1) := dd_at dd_Mo_assign 81 rfl
theorem d_Mo_assign_143 : decode prog_14_method_62_code 143 = .ok (.dstore 5, 2) := dd_at dd_Mo_assign 82 rfl
theorem d_Mo_assign_145 : decode prog_14_method_62_code 145 = .ok (.aload_n 0, 1) := dd_at dd_Mo_assign 83 rfl
theorem d_Mo_assign_146 : decode prog_14_method_62_code 146 = .ok (.dup, 1) := dd_at dd_Mo_assign 84 rfl
theorem d_Mo_assign_147 : decode prog_14_method_62_code 147 = .ok (.getfield 70, 3) := dd_at dd_Mo_assign 85 rfl
theorem d_Mo_assign_150 : decode prog_14_method_62_code 150 = .ok (.iconst 1, 1) := dd_at dd_Mo_assign 86 rfl
theorem d_Mo_assign_151 : decode prog_14_method_62_code 151 = .ok (.iadd, 1) := dd_at dd_Mo_assign 87 rfl
theorem d_Mo_assign_152 : decode prog_14_method_62_code 152 = .ok (.putfield 70, 3) := dd_at dd_Mo_assign 88 rfl
theorem d_Mo_assign_155 : decode prog_14_method_62_code 155 = .ok (.aload_n 0, 1) := dd_at dd_Mo_assign 89 rfl
theorem d_Mo_assign_156 : decode prog_14_method_62_code 156 = .ok (.getfield 94, 3) := dd_at dd_Mo_assign 90 rfl
theorem d_Mo_assign_159 : decode prog_14_method_62_code 159 = .ok (.ifCond .eq (4), 3) := dd_at dd_Mo_assign 91 rfl
theorem d_Mo_assign_162 : decode prog_14_method_62_code 162 = .ok (.return_, 1) := dd_at dd_Mo_assign 92 rfl
theorem d_Mo_assign_163 : decode prog_14_method_62_code 163 = .ok (.iload_n 3, 1) := dd_at dd_Mo_assign 93 rfl
theorem d_Mo_assign_164 : decode prog_14_method_62_code 164 = .ok (.bipush (25), 2) := dd_at dd_Mo_assign 94 rfl
theorem d_Mo_assign_166 : decode prog_14_method_62_code 166 = .ok (.if_icmp .le (15), 3) := dd_at dd_Mo_assign 95 rfl
theorem d_Mo_assign_169 : decode prog_14_method_62_code 169 = .ok (.aload_n 0, 1) := dd_at dd_Mo_assign 96 rfl
theorem d_Mo_assign_170 : decode prog_14_method_62_code 170 = .ok (.getfield 119, 3) := dd_at dd_Mo_assign 97 rfl
theorem d_Mo_assign_173 : decode prog_14_method_62_code 173 = .ok (.iload 4, 2) := dd_at dd_Mo_assign 98 rfl
theorem d_Mo_assign_175 : decode prog_14_method_62_code 175 = .ok (.dload 5, 2) := dd_at dd_Mo_assign 99 rfl
theorem d_Mo_assign_177 : decode prog_14_method_62_code 177 = .ok (.dastore, 1) := dd_at dd_Mo_assign 100 rfl
theorem d_Mo_assign_178 : decode prog_14_method_62_code 178 = .ok (.goto (11), 3) := dd_at dd_Mo_assign 101 rfl
theorem d_Mo_assign_181 : decode prog_14_method_62_code 181 = .ok (.aload_n 0, 1) := dd_at dd_Mo_assign 102 rfl
theorem d_Mo_assign_182 : decode prog_14_method_62_code 182 = .ok (.getfield 101, 3) := dd_at dd_Mo_assign 103 rfl
theorem d_Mo_assign_185 : decode prog_14_method_62_code 185 = .ok (.iload_n 3, 1) := dd_at dd_Mo_assign 104 rfl
theorem d_Mo_assign_186 : decode prog_14_method_62_code 186 = .ok (.dload 5, 2) := dd_at dd_Mo_assign 105 rfl
theorem d_Mo_assign_188 : decode prog_14_method_62_code 188 = .ok (.dastore, 1) := dd_at dd_Mo_assign 106 rfl
theorem d_Mo_assign_189 : decode prog_14_method_62_code 189 = .ok (.return_, 1) := dd_at dd_Mo_assign 107 rfl
def ld_Mo_holds : List (Nat × Instr × Nat) := [(0, .iload_n 1, 1), (1, .tableswitch (100) (0) (4) #[(35), (48), (61), (74), (87)], 35), (36, .dload_n 2, 1), (37, .dload 4, 2), (39, .dcmp .l, 1), (40, .ifCond .ne (7), 3), (43, .iconst 1, 1), (44, .goto (4), 3), (47, .iconst 0, 1), (48, .ireturn, 1), (49, .dload_n 2, 1), (50, .dload 4, 2), (52, .dcmp .g, 1), (53, .ifCond .ge (7), 3), (56, .iconst 1, 1), (57, .goto (4), 3), (60, .iconst 0, 1), (61, .ireturn, 1), (62, .dload_n 2, 1), (63, .dload 4, 2), (65, .dcmp .l, 1), (66, .ifCond .le (7), 3), (69, .iconst 1, 1), (70, .goto (4), 3), (73, .iconst 0, 1), (74, .ireturn, 1), (75, .dload_n 2, 1), (76, .dload 4, 2), (78, .dcmp .g, 1), (79, .ifCond .gt (7), 3), (82, .iconst 1, 1), (83, .goto (4), 3), (86, .iconst 0, 1), (87, .ireturn, 1), (88, .dload_n 2, 1), (89, .dload 4, 2), (91, .dcmp .l, 1), (92, .ifCond .lt (7), 3), (95, .iconst 1, 1), (96, .goto (4), 3), (99, .iconst 0, 1), (100, .ireturn, 1), (101, .dload_n 2, 1), (102, .dload 4, 2), (104, .dcmp .l, 1), (105, .ifCond .eq (7), 3), (108, .iconst 1, 1), (109, .goto (4), 3), (112, .iconst 0, 1), (113, .ireturn, 1)]
theorem dd_Mo_holds : (ld_Mo_holds).all (dOK prog_14_method_63_code) = true := by decide +kernel
theorem d_Mo_holds_0 : decode prog_14_method_63_code 0 = .ok (.iload_n 1, 1) := dd_at dd_Mo_holds 0 rfl
theorem d_Mo_holds_1 : decode prog_14_method_63_code 1 = .ok (.tableswitch (100) (0) (4) #[(35), (48), (61), (74), (87)], 35) := dd_at dd_Mo_holds 1 rfl
theorem d_Mo_holds_36 : decode prog_14_method_63_code 36 = .ok (.dload_n 2, 1) := dd_at dd_Mo_holds 2 rfl
theorem d_Mo_holds_37 : decode prog_14_method_63_code 37 = .ok (.dload 4, 2) := dd_at dd_Mo_holds 3 rfl
theorem d_Mo_holds_39 : decode prog_14_method_63_code 39 = .ok (.dcmp .l, 1) := dd_at dd_Mo_holds 4 rfl
theorem d_Mo_holds_40 : decode prog_14_method_63_code 40 = .ok (.ifCond .ne (7), 3) := dd_at dd_Mo_holds 5 rfl
theorem d_Mo_holds_43 : decode prog_14_method_63_code 43 = .ok (.iconst 1, 1) := dd_at dd_Mo_holds 6 rfl
theorem d_Mo_holds_44 : decode prog_14_method_63_code 44 = .ok (.goto (4), 3) := dd_at dd_Mo_holds 7 rfl
theorem d_Mo_holds_47 : decode prog_14_method_63_code 47 = .ok (.iconst 0, 1) := dd_at dd_Mo_holds 8 rfl
theorem d_Mo_holds_48 : decode prog_14_method_63_code 48 = .ok (.ireturn, 1) := dd_at dd_Mo_holds 9 rfl
theorem d_Mo_holds_49 : decode prog_14_method_63_code 49 = .ok (.dload_n 2, 1) := dd_at dd_Mo_holds 10 rfl
theorem d_Mo_holds_50 : decode prog_14_method_63_code 50 = .ok (.dload 4, 2) := dd_at dd_Mo_holds 11 rfl
theorem d_Mo_holds_52 : decode prog_14_method_63_code 52 = .ok (.dcmp .g, 1) := dd_at dd_Mo_holds 12 rfl
theorem d_Mo_holds_53 : decode prog_14_method_63_code 53 = .ok (.ifCond .ge (7), 3) := dd_at dd_Mo_holds 13 rfl
theorem d_Mo_holds_56 : decode prog_14_method_63_code 56 = .ok (.iconst 1, 1) := dd_at dd_Mo_holds 14 rfl
theorem d_Mo_holds_57 : decode prog_14_method_63_code 57 = .ok (.goto (4), 3) := dd_at dd_Mo_holds 15 rfl
theorem d_Mo_holds_60 : decode prog_14_method_63_code 60 = .ok (.iconst 0, 1) := dd_at dd_Mo_holds 16 rfl
theorem d_Mo_holds_61 : decode prog_14_method_63_code 61 = .ok (.ireturn, 1) := dd_at dd_Mo_holds 17 rfl
theorem d_Mo_holds_62 : decode prog_14_method_63_code 62 = .ok (.dload_n 2, 1) := dd_at dd_Mo_holds 18 rfl
theorem d_Mo_holds_63 : decode prog_14_method_63_code 63 = .ok (.dload 4, 2) := dd_at dd_Mo_holds 19 rfl
theorem d_Mo_holds_65 : decode prog_14_method_63_code 65 = .ok (.dcmp .l, 1) := dd_at dd_Mo_holds 20 rfl
theorem d_Mo_holds_66 : decode prog_14_method_63_code 66 = .ok (.ifCond .le (7), 3) := dd_at dd_Mo_holds 21 rfl
theorem d_Mo_holds_69 : decode prog_14_method_63_code 69 = .ok (.iconst 1, 1) := dd_at dd_Mo_holds 22 rfl
theorem d_Mo_holds_70 : decode prog_14_method_63_code 70 = .ok (.goto (4), 3) := dd_at dd_Mo_holds 23 rfl
theorem d_Mo_holds_73 : decode prog_14_method_63_code 73 = .ok (.iconst 0, 1) := dd_at dd_Mo_holds 24 rfl
theorem d_Mo_holds_74 : decode prog_14_method_63_code 74 = .ok (.ireturn, 1) := dd_at dd_Mo_holds 25 rfl
theorem d_Mo_holds_75 : decode prog_14_method_63_code 75 = .ok (.dload_n 2, 1) := dd_at dd_Mo_holds 26 rfl
theorem d_Mo_holds_76 : decode prog_14_method_63_code 76 = .ok (.dload 4, 2) := dd_at dd_Mo_holds 27 rfl
theorem d_Mo_holds_78 : decode prog_14_method_63_code 78 = .ok (.dcmp .g, 1) := dd_at dd_Mo_holds 28 rfl
theorem d_Mo_holds_79 : decode prog_14_method_63_code 79 = .ok (.ifCond .gt (7), 3) := dd_at dd_Mo_holds 29 rfl
theorem d_Mo_holds_82 : decode prog_14_method_63_code 82 = .ok (.iconst 1, 1) := dd_at dd_Mo_holds 30 rfl
theorem d_Mo_holds_83 : decode prog_14_method_63_code 83 = .ok (.goto (4), 3) := dd_at dd_Mo_holds 31 rfl
theorem d_Mo_holds_86 : decode prog_14_method_63_code 86 = .ok (.iconst 0, 1) := dd_at dd_Mo_holds 32 rfl
theorem d_Mo_holds_87 : decode prog_14_method_63_code 87 = .ok (.ireturn, 1) := dd_at dd_Mo_holds 33 rfl
theorem d_Mo_holds_88 : decode prog_14_method_63_code 88 = .ok (.dload_n 2, 1) := dd_at dd_Mo_holds 34 rfl
theorem d_Mo_holds_89 : decode prog_14_method_63_code 89 = .ok (.dload 4, 2) := dd_at dd_Mo_holds 35 rfl
theorem d_Mo_holds_91 : decode prog_14_method_63_code 91 = .ok (.dcmp .l, 1) := dd_at dd_Mo_holds 36 rfl
theorem d_Mo_holds_92 : decode prog_14_method_63_code 92 = .ok (.ifCond .lt (7), 3) := dd_at dd_Mo_holds 37 rfl
theorem d_Mo_holds_95 : decode prog_14_method_63_code 95 = .ok (.iconst 1, 1) := dd_at dd_Mo_holds 38 rfl
theorem d_Mo_holds_96 : decode prog_14_method_63_code 96 = .ok (.goto (4), 3) := dd_at dd_Mo_holds 39 rfl
theorem d_Mo_holds_99 : decode prog_14_method_63_code 99 = .ok (.iconst 0, 1) := dd_at dd_Mo_holds 40 rfl
theorem d_Mo_holds_100 : decode prog_14_method_63_code 100 = .ok (.ireturn, 1) := dd_at dd_Mo_holds 41 rfl
theorem d_Mo_holds_101 : decode prog_14_method_63_code 101 = .ok (.dload_n 2, 1) := dd_at dd_Mo_holds 42 rfl
theorem d_Mo_holds_102 : decode prog_14_method_63_code 102 = .ok (.dload 4, 2) := dd_at dd_Mo_holds 43 rfl
theorem d_Mo_holds_104 : decode prog_14_method_63_code 104 = .ok (.dcmp .l, 1) := dd_at dd_Mo_holds 44 rfl
theorem d_Mo_holds_105 : decode prog_14_method_63_code 105 = .ok (.ifCond .eq (7), 3) := dd_at dd_Mo_holds 45 rfl
theorem d_Mo_holds_108 : decode prog_14_method_63_code 108 = .ok (.iconst 1, 1) := dd_at dd_Mo_holds 46 rfl
theorem d_Mo_holds_109 : decode prog_14_method_63_code 109 = .ok (.goto (4), 3) := dd_at dd_Mo_holds 47 rfl
theorem d_Mo_holds_112 : decode prog_14_method_63_code 112 = .ok (.iconst 0, 1) := dd_at dd_Mo_holds 48 rfl
theorem d_Mo_holds_113 : decode prog_14_method_63_code 113 = .ok (.ireturn, 1) := dd_at dd_Mo_holds 49 rfl
def ld_Mo_over : List (Nat × Instr × Nat) := [(0, .dload 5, 2), (2, .dconst 0, 1), (3, .dcmp .g, 1), (4, .ifCond .ge (17), 3), (7, .dload_n 1, 1), (8, .dload_n 3, 1), (9, .dcmp .g, 1), (10, .ifCond .ge (7), 3), (13, .iconst 1, 1), (14, .goto (18), 3), (17, .iconst 0, 1), (18, .goto (14), 3), (21, .dload_n 1, 1), (22, .dload_n 3, 1), (23, .dcmp .l, 1), (24, .ifCond .le (7), 3), (27, .iconst 1, 1), (28, .goto (4), 3), (31, .iconst 0, 1), (32, .ireturn, 1)]
theorem dd_Mo_over : (ld_Mo_over).all (dOK prog_14_method_64_code) = true := by decide +kernel
theorem d_Mo_over_0 : decode prog_14_method_64_code 0 = .ok (.dload 5, 2) := dd_at dd_Mo_over 0 rfl
theorem d_Mo_over_2 : decode prog_14_method_64_code 2 = .ok (.dconst 0, 1) := dd_at dd_Mo_over 1 rfl
theorem d_Mo_over_3 : decode prog_14_method_64_code 3 = .ok (.dcmp .g, 1) := dd_at dd_Mo_over 2 rfl
theorem d_Mo_over_4 : decode prog_14_method_64_code 4 = .ok (.ifCond .ge (17), 3) := dd_at dd_Mo_over 3 rfl
theorem d_Mo_over_7 : decode prog_14_method_64_code 7 = .ok (.dload_n 1, 1) := dd_at dd_Mo_over 4 rfl
theorem d_Mo_over_8 : decode prog_14_method_64_code 8 = .ok (.dload_n 3, 1) := dd_at dd_Mo_over 5 rfl
theorem d_Mo_over_9 : decode prog_14_method_64_code 9 = .ok (.dcmp .g, 1) := dd_at dd_Mo_over 6 rfl
theorem d_Mo_over_10 : decode prog_14_method_64_code 10 = .ok (.ifCond .ge (7), 3) := dd_at dd_Mo_over 7 rfl
theorem d_Mo_over_13 : decode prog_14_method_64_code 13 = .ok (.iconst 1, 1) := dd_at dd_Mo_over 8 rfl
theorem d_Mo_over_14 : decode prog_14_method_64_code 14 = .ok (.goto (18), 3) := dd_at dd_Mo_over 9 rfl
theorem d_Mo_over_17 : decode prog_14_method_64_code 17 = .ok (.iconst 0, 1) := dd_at dd_Mo_over 10 rfl
theorem d_Mo_over_18 : decode prog_14_method_64_code 18 = .ok (.goto (14), 3) := dd_at dd_Mo_over 11 rfl
theorem d_Mo_over_21 : decode prog_14_method_64_code 21 = .ok (.dload_n 1, 1) := dd_at dd_Mo_over 12 rfl
theorem d_Mo_over_22 : decode prog_14_method_64_code 22 = .ok (.dload_n 3, 1) := dd_at dd_Mo_over 13 rfl
theorem d_Mo_over_23 : decode prog_14_method_64_code 23 = .ok (.dcmp .l, 1) := dd_at dd_Mo_over 14 rfl
theorem d_Mo_over_24 : decode prog_14_method_64_code 24 = .ok (.ifCond .le (7), 3) := dd_at dd_Mo_over 15 rfl
theorem d_Mo_over_27 : decode prog_14_method_64_code 27 = .ok (.iconst 1, 1) := dd_at dd_Mo_over 16 rfl
theorem d_Mo_over_28 : decode prog_14_method_64_code 28 = .ok (.goto (4), 3) := dd_at dd_Mo_over 17 rfl
theorem d_Mo_over_31 : decode prog_14_method_64_code 31 = .ok (.iconst 0, 1) := dd_at dd_Mo_over 18 rfl
theorem d_Mo_over_32 : decode prog_14_method_64_code 32 = .ok (.ireturn, 1) := dd_at dd_Mo_over 19 rfl
def ld_Mo_loopFor : List (Nat × Instr × Nat) := [(0, .iconst 0, 1), (1, .istore_n 2, 1), (2, .iload_n 2, 1), (3, .aload_n 0, 1), (4, .getfield 82, 3), (7, .if_icmp .ge (21), 3), (10, .aload_n 0, 1), (11, .getfield 137, 3), (14, .iload_n 2, 1), (15, .iaload, 1), (16, .iload_n 1, 1), (17, .if_icmp .ne (5), 3), (20, .iload_n 2, 1), (21, .ireturn, 1), (22, .iinc 2 (1), 3), (25, .goto (-23), 3), (28, .iconst (-1), 1), (29, .ireturn, 1)]
theorem dd_Mo_loopFor : (ld_Mo_loopFor).all (dOK prog_14_method_65_code) = true := by decide +kernel
theorem d_Mo_loopFor_0 : decode prog_14_method_65_code 0 = .ok (.iconst 0, 1) := dd_at dd_Mo_loopFor 0 rfl
theorem d_Mo_loopFor_1 : decode prog_14_method_65_code 1 = .ok (.istore_n 2, 1) := dd_at dd_Mo_loopFor 1 rfl
theorem d_Mo_loopFor_2 : decode prog_14_method_65_code 2 = .ok (.iload_n 2, 1) := dd_at dd_Mo_loopFor 2 rfl
theorem d_Mo_loopFor_3 : decode prog_14_method_65_code 3 = .ok (.aload_n 0, 1) := dd_at dd_Mo_loopFor 3 rfl
theorem d_Mo_loopFor_4 : decode prog_14_method_65_code 4 = .ok (.getfield 82, 3) := dd_at dd_Mo_loopFor 4 rfl
theorem d_Mo_loopFor_7 : decode prog_14_method_65_code 7 = .ok (.if_icmp .ge (21), 3) := dd_at dd_Mo_loopFor 5 rfl
theorem d_Mo_loopFor_10 : decode prog_14_method_65_code 10 = .ok (.aload_n 0, 1) := dd_at dd_Mo_loopFor 6 rfl
theorem d_Mo_loopFor_11 : decode prog_14_method_65_code 11 = .ok (.getfield 137, 3) := dd_at dd_Mo_loopFor 7 rfl
theorem d_Mo_loopFor_14 : decode prog_14_method_65_code 14 = .ok (.iload_n 2, 1) := dd_at dd_Mo_loopFor 8 rfl
theorem d_Mo_loopFor_15 : decode prog_14_method_65_code 15 = .ok (.iaload, 1) := dd_at dd_Mo_loopFor 9 rfl
theorem d_Mo_loopFor_16 : decode prog_14_method_65_code 16 = .ok (.iload_n 1, 1) := dd_at dd_Mo_loopFor 10 rfl
theorem d_Mo_loopFor_17 : decode prog_14_method_65_code 17 = .ok (.if_icmp .ne (5), 3) := dd_at dd_Mo_loopFor 11 rfl
theorem d_Mo_loopFor_20 : decode prog_14_method_65_code 20 = .ok (.iload_n 2, 1) := dd_at dd_Mo_loopFor 12 rfl
theorem d_Mo_loopFor_21 : decode prog_14_method_65_code 21 = .ok (.ireturn, 1) := dd_at dd_Mo_loopFor 13 rfl
theorem d_Mo_loopFor_22 : decode prog_14_method_65_code 22 = .ok (.iinc 2 (1), 3) := dd_at dd_Mo_loopFor 14 rfl
theorem d_Mo_loopFor_25 : decode prog_14_method_65_code 25 = .ok (.goto (-23), 3) := dd_at dd_Mo_loopFor 15 rfl
theorem d_Mo_loopFor_28 : decode prog_14_method_65_code 28 = .ok (.iconst (-1), 1) := dd_at dd_Mo_loopFor 16 rfl
theorem d_Mo_loopFor_29 : decode prog_14_method_65_code 29 = .ok (.ireturn, 1) := dd_at dd_Mo_loopFor 17 rfl
def ld_Mo_doFor : List (Nat × Instr × Nat) := [(0, .aload_n 0, 1), (1, .getfield 49, 3), (4, .iload_n 1, 1), (5, .bipush (8), 2), (7, .imul, 1), (8, .iaload, 1), (9, .istore_n 3, 1), (10, .aload_n 0, 1), (11, .aload_n 0, 1), (12, .getfield 52, 3), (15, .iload_n 1, 1), (16, .iconst 4, 1), (17, .imul, 1), (18, .iaload, 1), (19, .invokevirtual 392, 3), (22, .dstore 4, 2), (24, .aload_n 0, 1), (25, .getfield 94, 3), (28, .ifCond .ne (20), 3), (31, .aload_n 0, 1), (32, .aload_n 0, 1), (33, .getfield 52, 3), (36, .iload_n 1, 1), (37, .iconst 4, 1), (38, .imul, 1), (39, .iconst 1, 1), (40, .iadd, 1), (41, .iaload, 1), (42, .invokevirtual 392, 3), (45, .goto (4), 3), (48, .dconst 0, 1), (49, .dstore 6, 2), (51, .dconst 1, 1), (52, .dstore 8, 2), (54, .aload_n 0, 1), (55, .getfield 94, 3), (58, .ifCond .ne (34), 3), (61, .aload_n 0, 1), (62, .getfield 49, 3), (65, .iload_n 1, 1), (66, .bipush (8), 2), (68, .imul, 1), (69, .iconst 1, 1), (70, .iadd, 1), (71, .iaload, 1), (72, .iconst 1, 1), (73, .if_icmp .ne (19), 3), (76, .aload_n 0, 1), (77, .aload_n 0, 1), (78, .getfield 52, 3), (81, .iload_n 1, 1), (82, .iconst 4, 1), (83, .imul, 1), (84, .iconst 2, 1), (85, .iadd, 1), (86, .iaload, 1), (87, .invokevirtual 392, 3), (90, .dstore 8, 2), (92, .aload_n 0, 1), (93, .getfield 94, 3), (96, .ifCond .eq (5), 3), (99, .iload_n 2, 1), (100, .ireturn, 1), (101, .aload_n 0, 1), (102, .iload_n 3, 1), (103, .invokevirtual 395, 3), (106, .ifCond .lt (12), 3), (109, .aload_n 0, 1), (110, .aload_n 0, 1), (111, .iload_n 3, 1), (112, .invokevirtual 395, 3), (115, .putfield 82, 3), (118, .aload_n 0, 1), (119, .getfield 101, 3), (122, .iload_n 3, 1), (123, .dload 4, 2), (125, .dastore, 1), (126, .aload_n 0, 1), (127, .dload 4, 2), (129, .dload 6, 2), (131, .dload 8, 2), (133, .invokevirtual 398, 3), (136, .ifCond .eq (72), 3), (139, .iload_n 2, 1), (140, .istore 10, 2), (142, .iload 10, 2), (144, .ifCond .lt (57), 3), (147, .aload_n 0, 1), (148, .getfield 46, 3), (151, .iload 10, 2), (153, .iaload, 1), (154, .bipush (8), 2), (156, .if_icmp .ne (29), 3), (159, .aload_n 0, 1), (160, .getfield 49, 3), (163, .iload 10, 2), (165, .bipush (8), 2), (167, .imul, 1), (168, .iaload, 1), (169, .iload_n 3, 1), (170, .if_icmp .ne (15), 3), (173, .aload_n 0, 1), (174, .aload_n 0, 1), (175, .getfield 42, 3), (178, .iload 10, 2), (180, .iaload, 1), (181, .invokevirtual 389, 3), (184, .ireturn, 1), (185, .aload_n 0, 1), (186, .aload_n 0, 1), (187, .getfield 42, 3), (190, .iload 10, 2), (192, .iaload, 1), (193, .invokevirtual 389, 3), (196, .istore 10, 2), (198, .goto (-56), 3), (201, .aload_n 0, 1), (202, .iconst 2, 1), (203, .putfield 94, 3), (206, .iload_n 2, 1), (207, .ireturn, 1), (208, .aload_n 0, 1), (209, .getfield 82, 3), (212, .bipush (6), 2), (214, .if_icmp .ne (10), 3), (217, .aload_n 0, 1), (218, .iconst 2, 1), (219, .putfield 94, 3), (222, .iload_n 2, 1), (223, .ireturn, 1), (224, .aload_n 0, 1), (225, .getfield 137, 3), (228, .aload_n 0, 1), (229, .getfield 82, 3), (232, .iload_n 3, 1), (233, .iastore, 1), (234, .aload_n 0, 1), (235, .getfield 140, 3), (238, .aload_n 0, 1), (239, .getfield 82, 3), (242, .iload_n 1, 1), (243, .iastore, 1), (244, .aload_n 0, 1), (245, .getfield 110, 3), (248, .aload_n 0, 1), (249, .getfield 82, 3), (252, .dload 6, 2), (254, .dastore, 1), (255, .aload_n 0, 1), (256, .getfield 113, 3), (259, .aload_n 0, 1), (260, .getfield 82, 3), (263, .dload 8, 2), (265, .dastore, 1), (266, .aload_n 0, 1), (267, .dup, 1), (268, .getfield 82, 3), (271, .iconst 1, 1), (272, .iadd, 1), (273, .putfield 82, 3), (276, .iload_n 2, 1), (277, .ireturn, 1)]
theorem dd_Mo_doFor : (ld_Mo_doFor).all (dOK prog_14_method_66_code) = true := by decide +kernel
theorem d_Mo_doFor_0 : decode prog_14_method_66_code 0 = .ok (.aload_n 0, 1) := dd_at dd_Mo_doFor 0 rfl
theorem d_Mo_doFor_1 : decode prog_14_method_66_code 1 = .ok (.getfield 49, 3) := dd_at dd_Mo_doFor 1 rfl
theorem d_Mo_doFor_4 : decode prog_14_method_66_code 4 = .ok (.iload_n 1, 1) := dd_at dd_Mo_doFor 2 rfl
theorem d_Mo_doFor_5 : decode prog_14_method_66_code 5 = .ok (.bipush (8), 2) := dd_at dd_Mo_doFor 3 rfl
theorem d_Mo_doFor_7 : decode prog_14_method_66_code 7 = .ok (.imul, 1) := dd_at dd_Mo_doFor 4 rfl
theorem d_Mo_doFor_8 : decode prog_14_method_66_code 8 = .ok (.iaload, 1) := dd_at dd_Mo_doFor 5 rfl
theorem d_Mo_doFor_9 : decode prog_14_method_66_code 9 = .ok (.istore_n 3, 1) := dd_at dd_Mo_doFor 6 rfl
theorem d_Mo_doFor_10 : decode prog_14_method_66_code 10 = .ok (.aload_n 0, 1) := dd_at dd_Mo_doFor 7 rfl
theorem d_Mo_doFor_11 : decode prog_14_method_66_code 11 = .ok (.aload_n 0, 1) := dd_at dd_Mo_doFor 8 rfl
theorem d_Mo_doFor_12 : decode prog_14_method_66_code 12 = .ok (.getfield 52, 3) := dd_at dd_Mo_doFor 9 rfl
theorem d_Mo_doFor_15 : decode prog_14_method_66_code 15 = .ok (.iload_n 1, 1) := dd_at dd_Mo_doFor 10 rfl
theorem d_Mo_doFor_16 : decode prog_14_method_66_code 16 = .ok (.iconst 4, 1) := dd_at dd_Mo_doFor 11 rfl
theorem d_Mo_doFor_17 : decode prog_14_method_66_code 17 = .ok (.imul, 1) := dd_at dd_Mo_doFor 12 rfl
theorem d_Mo_doFor_18 : decode prog_14_method_66_code 18 = .ok (.iaload, 1) := dd_at dd_Mo_doFor 13 rfl
theorem d_Mo_doFor_19 : decode prog_14_method_66_code 19 = .ok (.invokevirtual 392, 3) := dd_at dd_Mo_doFor 14 rfl
theorem d_Mo_doFor_22 : decode prog_14_method_66_code 22 = .ok (.dstore 4, 2) := dd_at dd_Mo_doFor 15 rfl
theorem d_Mo_doFor_24 : decode prog_14_method_66_code 24 = .ok (.aload_n 0, 1) := dd_at dd_Mo_doFor 16 rfl
theorem d_Mo_doFor_25 : decode prog_14_method_66_code 25 = .ok (.getfield 94, 3) := dd_at dd_Mo_doFor 17 rfl
theorem d_Mo_doFor_28 : decode prog_14_method_66_code 28 = .ok (.ifCond .ne (20), 3) := dd_at dd_Mo_doFor 18 rfl
theorem d_Mo_doFor_31 : decode prog_14_method_66_code 31 = .ok (.aload_n 0, 1) := dd_at dd_Mo_doFor 19 rfl
theorem d_Mo_doFor_32 : decode prog_14_method_66_code 32 = .ok (.aload_n 0, 1) := dd_at dd_Mo_doFor 20 rfl
theorem d_Mo_doFor_33 : decode prog_14_method_66_code 33 = .ok (.getfield 52, 3) := dd_at dd_Mo_doFor 21 rfl
theorem d_Mo_doFor_36 : decode prog_14_method_66_code 36 = .ok (.iload_n 1, 1) := dd_at dd_Mo_doFor 22 rfl
theorem d_Mo_doFor_37 : decode prog_14_method_66_code 37 = .ok (.iconst 4, 1) := dd_at dd_Mo_doFor 23 rfl
theorem d_Mo_doFor_38 : decode prog_14_method_66_code 38 = .ok (.imul, 1) := dd_at dd_Mo_doFor 24 rfl
theorem d_Mo_doFor_39 : decode prog_14_method_66_code 39 = .ok (.iconst 1, 1) := dd_at dd_Mo_doFor 25 rfl
theorem d_Mo_doFor_40 : decode prog_14_method_66_code 40 = .ok (.iadd, 1) := dd_at dd_Mo_doFor 26 rfl
theorem d_Mo_doFor_41 : decode prog_14_method_66_code 41 = .ok (.iaload, 1) := dd_at dd_Mo_doFor 27 rfl
theorem d_Mo_doFor_42 : decode prog_14_method_66_code 42 = .ok (.invokevirtual 392, 3) := dd_at dd_Mo_doFor 28 rfl
theorem d_Mo_doFor_45 : decode prog_14_method_66_code 45 = .ok (.goto (4), 3) := dd_at dd_Mo_doFor 29 rfl
theorem d_Mo_doFor_48 : decode prog_14_method_66_code 48 = .ok (.dconst 0, 1) := dd_at dd_Mo_doFor 30 rfl
theorem d_Mo_doFor_49 : decode prog_14_method_66_code 49 = .ok (.dstore 6, 2) := dd_at dd_Mo_doFor 31 rfl
theorem d_Mo_doFor_51 : decode prog_14_method_66_code 51 = .ok (.dconst 1, 1) := dd_at dd_Mo_doFor 32 rfl
theorem d_Mo_doFor_52 : decode prog_14_method_66_code 52 = .ok (.dstore 8, 2) := dd_at dd_Mo_doFor 33 rfl
theorem d_Mo_doFor_54 : decode prog_14_method_66_code 54 = .ok (.aload_n 0, 1) := dd_at dd_Mo_doFor 34 rfl
theorem d_Mo_doFor_55 : decode prog_14_method_66_code 55 = .ok (.getfield 94, 3) := dd_at dd_Mo_doFor 35 rfl
theorem d_Mo_doFor_58 : decode prog_14_method_66_code 58 = .ok (.ifCond .ne (34), 3) := dd_at dd_Mo_doFor 36 rfl
theorem d_Mo_doFor_61 : decode prog_14_method_66_code 61 = .ok (.aload_n 0, 1) := dd_at dd_Mo_doFor 37 rfl
theorem d_Mo_doFor_62 : decode prog_14_method_66_code 62 = .ok (.getfield 49, 3) := dd_at dd_Mo_doFor 38 rfl
theorem d_Mo_doFor_65 : decode prog_14_method_66_code 65 = .ok (.iload_n 1, 1) := dd_at dd_Mo_doFor 39 rfl
theorem d_Mo_doFor_66 : decode prog_14_method_66_code 66 = .ok (.bipush (8), 2) := dd_at dd_Mo_doFor 40 rfl
theorem d_Mo_doFor_68 : decode prog_14_method_66_code 68 = .ok (.imul, 1) := dd_at dd_Mo_doFor 41 rfl
theorem d_Mo_doFor_69 : decode prog_14_method_66_code 69 = .ok (.iconst 1, 1) := dd_at dd_Mo_doFor 42 rfl
theorem d_Mo_doFor_70 : decode prog_14_method_66_code 70 = .ok (.iadd, 1) := dd_at dd_Mo_doFor 43 rfl
theorem d_Mo_doFor_71 : decode prog_14_method_66_code 71 = .ok (.iaload, 1) := dd_at dd_Mo_doFor 44 rfl
theorem d_Mo_doFor_72 : decode prog_14_method_66_code 72 = .ok (.iconst 1, 1) := dd_at dd_Mo_doFor 45 rfl
theorem d_Mo_doFor_73 : decode prog_14_method_66_code 73 = .ok (.if_icmp .ne (19), 3) := dd_at dd_Mo_doFor 46 rfl
theorem d_Mo_doFor_76 : decode prog_14_method_66_code 76 = .ok (.aload_n 0, 1) := dd_at dd_Mo_doFor 47 rfl
theorem d_Mo_doFor_77 : decode prog_14_method_66_code 77 = .ok (.aload_n 0, 1) := dd_at dd_Mo_doFor 48 rfl
theorem d_Mo_doFor_78 : decode prog_14_method_66_code 78 = .ok (.getfield 52, 3) := dd_at dd_Mo_doFor 49 rfl
theorem d_Mo_doFor_81 : decode prog_14_method_66_code 81 = .ok (.iload_n 1, 1) := dd_at dd_Mo_doFor 50 rfl
theorem d_Mo_doFor_82 : decode prog_14_method_66_code 82 = .ok (.iconst 4, 1) := dd_at dd_Mo_doFor 51 rfl
theorem d_Mo_doFor_83 : decode prog_14_method_66_code 83 = .ok (.imul, 1) := dd_at dd_Mo_doFor 52 rfl
theorem d_Mo_doFor_84 : decode prog_14_method_66_code 84 = .ok (.iconst 2, 1) := dd_at dd_Mo_doFor 53 rfl
theorem d_Mo_doFor_85 : decode prog_14_method_66_code 85 = .ok (.iadd, 1) := dd_at dd_Mo_doFor 54 rfl
theorem d_Mo_doFor_86 : decode prog_14_method_66_code 86 = .ok (.iaload, 1) := dd_at dd_Mo_doFor 55 rfl
theorem d_Mo_doFor_87 : decode prog_14_method_66_code 87 = .ok (.invokevirtual 392, 3) := dd_at dd_Mo_doFor 56 rfl
theorem d_Mo_doFor_90 : decode prog_14_method_66_code 90 = .ok (.dstore 8, 2) := dd_at dd_Mo_doFor 57 rfl
theorem d_Mo_doFor_92 : decode prog_14_method_66_code 92 = .ok (.aload_n 0, 1) := dd_at dd_Mo_doFor 58 rfl
theorem d_Mo_doFor_93 : decode prog_14_method_66_code 93 = .ok (.getfield 94, 3) := dd_at dd_Mo_doFor 59 rfl
theorem d_Mo_doFor_96 : decode prog_14_method_66_code 96 = .ok (.ifCond .eq (5), 3) := dd_at dd_Mo_doFor 60 rfl
theorem d_Mo_doFor_99 : decode prog_14_method_66_code 99 = .ok (.iload_n 2, 1) := dd_at dd_Mo_doFor 61 rfl
theorem d_Mo_doFor_100 : decode prog_14_method_66_code 100 = .ok (.ireturn, 1) := dd_at dd_Mo_doFor 62 rfl
theorem d_Mo_doFor_101 : decode prog_14_method_66_code 101 = .ok (.aload_n 0, 1) := dd_at dd_Mo_doFor 63 rfl
theorem d_Mo_doFor_102 : decode prog_14_method_66_code 102 = .ok (.iload_n 3, 1) := dd_at dd_Mo_doFor 64 rfl
theorem d_Mo_doFor_103 : decode prog_14_method_66_code 103 = .ok (.invokevirtual 395, 3) := dd_at dd_Mo_doFor 65 rfl
theorem d_Mo_doFor_106 : decode prog_14_method_66_code 106 = .ok (.ifCond .lt (12), 3) := dd_at dd_Mo_doFor 66 rfl
theorem d_Mo_doFor_109 : decode prog_14_method_66_code 109 = .ok (.aload_n 0, 1) := dd_at dd_Mo_doFor 67 rfl
theorem d_Mo_doFor_110 : decode prog_14_method_66_code 110 = .ok (.aload_n 0, 1) := dd_at dd_Mo_doFor 68 rfl
theorem d_Mo_doFor_111 : decode prog_14_method_66_code 111 = .ok (.iload_n 3, 1) := dd_at dd_Mo_doFor 69 rfl
theorem d_Mo_doFor_112 : decode prog_14_method_66_code 112 = .ok (.invokevirtual 395, 3) := dd_at dd_Mo_doFor 70 rfl
theorem d_Mo_doFor_115 : decode prog_14_method_66_code 115 = .ok (.putfield 82, 3) := dd_at dd_Mo_doFor 71 rfl
theorem d_Mo_doFor_118 : decode prog_14_method_66_code 118 = .ok (.aload_n 0, 1) := dd_at dd_Mo_doFor 72 rfl
theorem d_Mo_doFor_119 : decode prog_14_method_66_code 119 = .ok (.getfield 101, 3) := dd_at dd_Mo_doFor 73 rfl
theorem d_Mo_doFor_122 : decode prog_14_method_66_code 122 = .ok (.iload_n 3, 1) := dd_at dd_Mo_doFor 74 rfl
theorem d_Mo_doFor_123 : decode prog_14_method_66_code 123 = .ok (.dload 4, 2) := dd_at dd_Mo_doFor 75 rfl
theorem d_Mo_doFor_125 : decode prog_14_method_66_code 125 = .ok (.dastore, 1) := dd_at dd_Mo_doFor 76 rfl
theorem d_Mo_doFor_126 : decode prog_14_method_66_code 126 = .ok (.aload_n 0, 1) := dd_at dd_Mo_doFor 77 rfl
theorem d_Mo_doFor_127 : decode prog_14_method_66_code 127 = .ok (.dload 4, 2) := dd_at dd_Mo_doFor 78 rfl
theorem d_Mo_doFor_129 : decode prog_14_method_66_code 129 = .ok (.dload 6, 2) := dd_at dd_Mo_doFor 79 rfl
theorem d_Mo_doFor_131 : decode prog_14_method_66_code 131 = .ok (.dload 8, 2) := dd_at dd_Mo_doFor 80 rfl
theorem d_Mo_doFor_133 : decode prog_14_method_66_code 133 = .ok (.invokevirtual 398, 3) := dd_at dd_Mo_doFor 81 rfl
theorem d_Mo_doFor_136 : decode prog_14_method_66_code 136 = .ok (.ifCond .eq (72), 3) := dd_at dd_Mo_doFor 82 rfl
theorem d_Mo_doFor_139 : decode prog_14_method_66_code 139 = .ok (.iload_n 2, 1) := dd_at dd_Mo_doFor 83 rfl
theorem d_Mo_doFor_140 : decode prog_14_method_66_code 140 = .ok (.istore 10, 2) := dd_at dd_Mo_doFor 84 rfl
theorem d_Mo_doFor_142 : decode prog_14_method_66_code 142 = .ok (.iload 10, 2) := dd_at dd_Mo_doFor 85 rfl
theorem d_Mo_doFor_144 : decode prog_14_method_66_code 144 = .ok (.ifCond .lt (57), 3) := dd_at dd_Mo_doFor 86 rfl
theorem d_Mo_doFor_147 : decode prog_14_method_66_code 147 = .ok (.aload_n 0, 1) := dd_at dd_Mo_doFor 87 rfl
theorem d_Mo_doFor_148 : decode prog_14_method_66_code 148 = .ok (.getfield 46, 3) := dd_at dd_Mo_doFor 88 rfl
theorem d_Mo_doFor_151 : decode prog_14_method_66_code 151 = .ok (.iload 10, 2) := dd_at dd_Mo_doFor 89 rfl
theorem d_Mo_doFor_153 : decode prog_14_method_66_code 153 = .ok (.iaload, 1) := dd_at dd_Mo_doFor 90 rfl
theorem d_Mo_doFor_154 : decode prog_14_method_66_code 154 = .ok (.bipush (8), 2) := dd_at dd_Mo_doFor 91 rfl
theorem d_Mo_doFor_156 : decode prog_14_method_66_code 156 = .ok (.if_icmp .ne (29), 3) := dd_at dd_Mo_doFor 92 rfl
theorem d_Mo_doFor_159 : decode prog_14_method_66_code 159 = .ok (.aload_n 0, 1) := dd_at dd_Mo_doFor 93 rfl
theorem d_Mo_doFor_160 : decode prog_14_method_66_code 160 = .ok (.getfield 49, 3) := dd_at dd_Mo_doFor 94 rfl
theorem d_Mo_doFor_163 : decode prog_14_method_66_code 163 = .ok (.iload 10, 2) := dd_at dd_Mo_doFor 95 rfl
theorem d_Mo_doFor_165 : decode prog_14_method_66_code 165 = .ok (.bipush (8), 2) := dd_at dd_Mo_doFor 96 rfl
theorem d_Mo_doFor_167 : decode prog_14_method_66_code 167 = .ok (.imul, 1) := dd_at dd_Mo_doFor 97 rfl
theorem d_Mo_doFor_168 : decode prog_14_method_66_code 168 = .ok (.iaload, 1) := dd_at dd_Mo_doFor 98 rfl
theorem d_Mo_doFor_169 : decode prog_14_method_66_code 169 = .ok (.iload_n 3, 1) := dd_at dd_Mo_doFor 99 rfl
theorem d_Mo_doFor_170 : decode prog_14_method_66_code 170 = .ok (.if_icmp .ne (15), 3) := dd_at dd_Mo_doFor 100 rfl
theorem d_Mo_doFor_173 : decode prog_14_method_66_code 173 = .ok (.aload_n 0, 1) := dd_at dd_Mo_doFor 101 rfl
theorem d_Mo_doFor_174 : decode prog_14_method_66_code 174 = .ok (.aload_n 0, 1) := dd_at dd_Mo_doFor 102 rfl
theorem d_Mo_doFor_175 : decode prog_14_method_66_code 175 = .ok (.getfield 42, 3) := dd_at dd_Mo_doFor 103 rfl
theorem d_Mo_doFor_178 : decode prog_14_method_66_code 178 = .ok (.iload 10, 2) := dd_at dd_Mo_doFor 104 rfl
theorem d_Mo_doFor_180 : decode prog_14_method_66_code 180 = .ok (.iaload, 1) := dd_at dd_Mo_doFor 105 rfl
theorem d_Mo_doFor_181 : decode prog_14_method_66_code 181 = .ok (.invokevirtual 389, 3) := dd_at dd_Mo_doFor 106 rfl
theorem d_Mo_doFor_184 : decode prog_14_method_66_code 184 = .ok (.ireturn, 1) := dd_at dd_Mo_doFor 107 rfl
theorem d_Mo_doFor_185 : decode prog_14_method_66_code 185 = .ok (.aload_n 0, 1) := dd_at dd_Mo_doFor 108 rfl
theorem d_Mo_doFor_186 : decode prog_14_method_66_code 186 = .ok (.aload_n 0, 1) := dd_at dd_Mo_doFor 109 rfl
theorem d_Mo_doFor_187 : decode prog_14_method_66_code 187 = .ok (.getfield 42, 3) := dd_at dd_Mo_doFor 110 rfl
theorem d_Mo_doFor_190 : decode prog_14_method_66_code 190 = .ok (.iload 10, 2) := dd_at dd_Mo_doFor 111 rfl
theorem d_Mo_doFor_192 : decode prog_14_method_66_code 192 = .ok (.iaload, 1) := dd_at dd_Mo_doFor 112 rfl
theorem d_Mo_doFor_193 : decode prog_14_method_66_code 193 = .ok (.invokevirtual 389, 3) := dd_at dd_Mo_doFor 113 rfl
theorem d_Mo_doFor_196 : decode prog_14_method_66_code 196 = .ok (.istore 10, 2) := dd_at dd_Mo_doFor 114 rfl
theorem d_Mo_doFor_198 : decode prog_14_method_66_code 198 = .ok (.goto (-56), 3) := dd_at dd_Mo_doFor 115 rfl
theorem d_Mo_doFor_201 : decode prog_14_method_66_code 201 = .ok (.aload_n 0, 1) := dd_at dd_Mo_doFor 116 rfl
theorem d_Mo_doFor_202 : decode prog_14_method_66_code 202 = .ok (.iconst 2, 1) := dd_at dd_Mo_doFor 117 rfl
theorem d_Mo_doFor_203 : decode prog_14_method_66_code 203 = .ok (.putfield 94, 3) := dd_at dd_Mo_doFor 118 rfl
theorem d_Mo_doFor_206 : decode prog_14_method_66_code 206 = .ok (.iload_n 2, 1) := dd_at dd_Mo_doFor 119 rfl
theorem d_Mo_doFor_207 : decode prog_14_method_66_code 207 = .ok (.ireturn, 1) := dd_at dd_Mo_doFor 120 rfl
theorem d_Mo_doFor_208 : decode prog_14_method_66_code 208 = .ok (.aload_n 0, 1) := dd_at dd_Mo_doFor 121 rfl
theorem d_Mo_doFor_209 : decode prog_14_method_66_code 209 = .ok (.getfield 82, 3) := dd_at dd_Mo_doFor 122 rfl
theorem d_Mo_doFor_212 : decode prog_14_method_66_code 212 = .ok (.bipush (6), 2) := dd_at dd_Mo_doFor 123 rfl
theorem d_Mo_doFor_214 : decode prog_14_method_66_code 214 = .ok (.if_icmp .ne (10), 3) := dd_at dd_Mo_doFor 124 rfl
theorem d_Mo_doFor_217 : decode prog_14_method_66_code 217 = .ok (.aload_n 0, 1) := dd_at dd_Mo_doFor 125 rfl
theorem d_Mo_doFor_218 : decode prog_14_method_66_code 218 = .ok (.iconst 2, 1) := dd_at dd_Mo_doFor 126 rfl
theorem d_Mo_doFor_219 : decode prog_14_method_66_code 219 = .ok (.putfield 94, 3) := dd_at dd_Mo_doFor 127 rfl
theorem d_Mo_doFor_222 : decode prog_14_method_66_code 222 = .ok (.iload_n 2, 1) := dd_at dd_Mo_doFor 128 rfl
theorem d_Mo_doFor_223 : decode prog_14_method_66_code 223 = .ok (.ireturn, 1) := dd_at dd_Mo_doFor 129 rfl
theorem d_Mo_doFor_224 : decode prog_14_method_66_code 224 = .ok (.aload_n 0, 1) := dd_at dd_Mo_doFor 130 rfl
theorem d_Mo_doFor_225 : decode prog_14_method_66_code 225 = .ok (.getfield 137, 3) := dd_at dd_Mo_doFor 131 rfl
theorem d_Mo_doFor_228 : decode prog_14_method_66_code 228 = .ok (.aload_n 0, 1) := dd_at dd_Mo_doFor 132 rfl
theorem d_Mo_doFor_229 : decode prog_14_method_66_code 229 = .ok (.getfield 82, 3) := dd_at dd_Mo_doFor 133 rfl
theorem d_Mo_doFor_232 : decode prog_14_method_66_code 232 = .ok (.iload_n 3, 1) := dd_at dd_Mo_doFor 134 rfl
theorem d_Mo_doFor_233 : decode prog_14_method_66_code 233 = .ok (.iastore, 1) := dd_at dd_Mo_doFor 135 rfl
theorem d_Mo_doFor_234 : decode prog_14_method_66_code 234 = .ok (.aload_n 0, 1) := dd_at dd_Mo_doFor 136 rfl
theorem d_Mo_doFor_235 : decode prog_14_method_66_code 235 = .ok (.getfield 140, 3) := dd_at dd_Mo_doFor 137 rfl
theorem d_Mo_doFor_238 : decode prog_14_method_66_code 238 = .ok (.aload_n 0, 1) := dd_at dd_Mo_doFor 138 rfl
theorem d_Mo_doFor_239 : decode prog_14_method_66_code 239 = .ok (.getfield 82, 3) := dd_at dd_Mo_doFor 139 rfl
theorem d_Mo_doFor_242 : decode prog_14_method_66_code 242 = .ok (.iload_n 1, 1) := dd_at dd_Mo_doFor 140 rfl
theorem d_Mo_doFor_243 : decode prog_14_method_66_code 243 = .ok (.iastore, 1) := dd_at dd_Mo_doFor 141 rfl
theorem d_Mo_doFor_244 : decode prog_14_method_66_code 244 = .ok (.aload_n 0, 1) := dd_at dd_Mo_doFor 142 rfl
theorem d_Mo_doFor_245 : decode prog_14_method_66_code 245 = .ok (.getfield 110, 3) := dd_at dd_Mo_doFor 143 rfl
theorem d_Mo_doFor_248 : decode prog_14_method_66_code 248 = .ok (.aload_n 0, 1) := dd_at dd_Mo_doFor 144 rfl
theorem d_Mo_doFor_249 : decode prog_14_method_66_code 249 = .ok (.getfield 82, 3) := dd_at dd_Mo_doFor 145 rfl
theorem d_Mo_doFor_252 : decode prog_14_method_66_code 252 = .ok (.dload 6, 2) := dd_at dd_Mo_doFor 146 rfl
theorem d_Mo_doFor_254 : decode prog_14_method_66_code 254 = .ok (.dastore, 1) := dd_at dd_Mo_doFor 147 rfl
theorem d_Mo_doFor_255 : decode prog_14_method_66_code 255 = .ok (.aload_n 0, 1) := dd_at dd_Mo_doFor 148 rfl
theorem d_Mo_doFor_256 : decode prog_14_method_66_code 256 = .ok (.getfield 113, 3) := dd_at dd_Mo_doFor 149 rfl
theorem d_Mo_doFor_259 : decode prog_14_method_66_code 259 = .ok (.aload_n 0, 1) := dd_at dd_Mo_doFor 150 rfl
theorem d_Mo_doFor_260 : decode prog_14_method_66_code 260 = .ok (.getfield 82, 3) := dd_at dd_Mo_doFor 151 rfl
theorem d_Mo_doFor_263 : decode prog_14_method_66_code 263 = .ok (.dload 8, 2) := dd_at dd_Mo_doFor 152 rfl
theorem d_Mo_doFor_265 : decode prog_14_method_66_code 265 = .ok (.dastore, 1) := dd_at dd_Mo_doFor 153 rfl
theorem d_Mo_doFor_266 : decode prog_14_method_66_code 266 = .ok (.aload_n 0, 1) := dd_at dd_Mo_doFor 154 rfl
theorem d_Mo_doFor_267 : decode prog_14_method_66_code 267 = .ok (.dup, 1) := dd_at dd_Mo_doFor 155 rfl
theorem d_Mo_doFor_268 : decode prog_14_method_66_code 268 = .ok (.getfield 82, 3) := dd_at dd_Mo_doFor 156 rfl
theorem d_Mo_doFor_271 : decode prog_14_method_66_code 271 = .ok (.iconst 1, 1) := dd_at dd_Mo_doFor 157 rfl
theorem d_Mo_doFor_272 : decode prog_14_method_66_code 272 = .ok (.iadd, 1) := dd_at dd_Mo_doFor 158 rfl
theorem d_Mo_doFor_273 : decode prog_14_method_66_code 273 = .ok (.putfield 82, 3) := dd_at dd_Mo_doFor 159 rfl
theorem d_Mo_doFor_276 : decode prog_14_method_66_code 276 = .ok (.iload_n 2, 1) := dd_at dd_Mo_doFor 160 rfl
theorem d_Mo_doFor_277 : decode prog_14_method_66_code 277 = .ok (.ireturn, 1) := dd_at dd_Mo_doFor 161 rfl
def ld_Mo_doNext : List (Nat × Instr × Nat) := [(0, .aload_n 0, 1), (1, .getfield 49, 3), (4, .iload_n 1, 1), (5, .bipush (8), 2), (7, .imul, 1), (8, .iaload, 1), (9, .istore_n 3, 1), (10, .aload_n 0, 1), (11, .iload_n 3, 1), (12, .invokevirtual 395, 3), (15, .istore 4, 2), (17, .iload 4, 2), (19, .ifCond .ge (10), 3), (22, .aload_n 0, 1), (23, .iconst 2, 1), (24, .putfield 94, 3), (27, .iload_n 2, 1), (28, .ireturn, 1), (29, .aload_n 0, 1), (30, .iload 4, 2), (32, .iconst 1, 1), (33, .iadd, 1), (34, .putfield 82, 3), (37, .aload_n 0, 1), (38, .aload_n 0, 1), (39, .getfield 101, 3), (42, .iload_n 3, 1), (43, .daload, 1), (44, .aload_n 0, 1), (45, .getfield 113, 3), (48, .iload 4, 2), (50, .daload, 1), (51, .dadd, 1), (52, .invokevirtual 342, 3), (55, .dstore 5, 2), (57, .aload_n 0, 1), (58, .getfield 94, 3), (61, .ifCond .eq (5), 3), (64, .iload_n 2, 1), (65, .ireturn, 1), (66, .aload_n 0, 1), (67, .getfield 101, 3), (70, .iload_n 3, 1), (71, .dload 5, 2), (73, .dastore, 1), (74, .aload_n 0, 1), (75, .dload 5, 2), (77, .aload_n 0, 1), (78, .getfield 110, 3), (81, .iload 4, 2), (83, .daload, 1), (84, .aload_n 0, 1), (85, .getfield 113, 3), (88, .iload 4, 2), (90, .daload, 1), (91, .invokevirtual 398, 3), (94, .ifCond .ne (20), 3), (97, .aload_n 0, 1), (98, .aload_n 0, 1), (99, .getfield 42, 3), (102, .aload_n 0, 1), (103, .getfield 140, 3), (106, .iload 4, 2), (108, .iaload, 1), (109, .iaload, 1), (110, .invokevirtual 389, 3), (113, .ireturn, 1), (114, .aload_n 0, 1), (115, .iload 4, 2), (117, .putfield 82, 3), (120, .iload_n 2, 1), (121, .ireturn, 1)]
theorem dd_Mo_doNext : (ld_Mo_doNext).all (dOK prog_14_method_67_code) = true := by decide +kernel
theorem d_Mo_doNext_0 : decode prog_14_method_67_code 0 = .ok (.aload_n 0, 1) := dd_at dd_Mo_doNext 0 rfl
theorem d_Mo_doNext_1 : decode prog_14_method_67_code 1 = .ok (.getfield 49, 3) := dd_at dd_Mo_doNext 1 rfl
theorem d_Mo_doNext_4 : decode prog_14_method_67_code 4 = .ok (.iload_n 1, 1) := dd_at dd_Mo_doNext 2 rfl
theorem d_Mo_doNext_5 : decode prog_14_method_67_code 5 = .ok (.bipush (8), 2) := dd_at dd_Mo_doNext 3 rfl
theorem d_Mo_doNext_7 : decode prog_14_method_67_code 7 = .ok (.imul, 1) := dd_at dd_Mo_doNext 4 rfl
theorem d_Mo_doNext_8 : decode prog_14_method_67_code 8 = .ok (.iaload, 1) := dd_at dd_Mo_doNext 5 rfl
theorem d_Mo_doNext_9 : decode prog_14_method_67_code 9 = .ok (.istore_n 3, 1) := dd_at dd_Mo_doNext 6 rfl
theorem d_Mo_doNext_10 : decode prog_14_method_67_code 10 = .ok (.aload_n 0, 1) := dd_at dd_Mo_doNext 7 rfl
theorem d_Mo_doNext_11 : decode prog_14_method_67_code 11 = .ok (.iload_n 3, 1) := dd_at dd_Mo_doNext 8 rfl
theorem d_Mo_doNext_12 : decode prog_14_method_67_code 12 = .ok (.invokevirtual 395, 3) := dd_at dd_Mo_doNext 9 rfl
theorem d_Mo_doNext_15 : decode prog_14_method_67_code 15 = .ok (.istore 4, 2) := dd_at dd_Mo_doNext 10 rfl
theorem d_Mo_doNext_17 : decode prog_14_method_67_code 17 = .ok (.iload 4, 2) := dd_at dd_Mo_doNext 11 rfl
theorem d_Mo_doNext_19 : decode prog_14_method_67_code 19 = .ok (.ifCond .ge (10), 3) := dd_at dd_Mo_doNext 12 rfl
theorem d_Mo_doNext_22 : decode prog_14_method_67_code 22 = .ok (.aload_n 0, 1) := dd_at dd_Mo_doNext 13 rfl
theorem d_Mo_doNext_23 : decode prog_14_method_67_code 23 = .ok (.iconst 2, 1) := dd_at dd_Mo_doNext 14 rfl
theorem d_Mo_doNext_24 : decode prog_14_method_67_code 24 = .ok (.putfield 94, 3) := dd_at dd_Mo_doNext 15 rfl
theorem d_Mo_doNext_27 : decode prog_14_method_67_code 27 = .ok (.iload_n 2, 1) := dd_at dd_Mo_doNext 16 rfl
theorem d_Mo_doNext_28 : decode prog_14_method_67_code 28 = .ok (.ireturn, 1) := dd_at dd_Mo_doNext 17 rfl
theorem d_Mo_doNext_29 : decode prog_14_method_67_code 29 = .ok (.aload_n 0, 1) := dd_at dd_Mo_doNext 18 rfl
theorem d_Mo_doNext_30 : decode prog_14_method_67_code 30 = .ok (.iload 4, 2) := dd_at dd_Mo_doNext 19 rfl
theorem d_Mo_doNext_32 : decode prog_14_method_67_code 32 = .ok (.iconst 1, 1) := dd_at dd_Mo_doNext 20 rfl
theorem d_Mo_doNext_33 : decode prog_14_method_67_code 33 = .ok (.iadd, 1) := dd_at dd_Mo_doNext 21 rfl
theorem d_Mo_doNext_34 : decode prog_14_method_67_code 34 = .ok (.putfield 82, 3) := dd_at dd_Mo_doNext 22 rfl
theorem d_Mo_doNext_37 : decode prog_14_method_67_code 37 = .ok (.aload_n 0, 1) := dd_at dd_Mo_doNext 23 rfl
theorem d_Mo_doNext_38 : decode prog_14_method_67_code 38 = .ok (.aload_n 0, 1) := dd_at dd_Mo_doNext 24 rfl
theorem d_Mo_doNext_39 : decode prog_14_method_67_code 39 = .ok (.getfield 101, 3) := dd_at dd_Mo_doNext 25 rfl
theorem d_Mo_doNext_42 : decode prog_14_method_67_code 42 = .ok (.iload_n 3, 1) := dd_at dd_Mo_doNext 26 rfl
theorem d_Mo_doNext_43 : decode prog_14_method_67_code 43 = .ok (.daload, 1) := dd_at dd_Mo_doNext 27 rfl
theorem d_Mo_doNext_44 : decode prog_14_method_67_code 44 = .ok (.aload_n 0, 1) := dd_at dd_Mo_doNext 28 rfl
theorem d_Mo_doNext_45 : decode prog_14_method_67_code 45 = .ok (.getfield 113, 3) := dd_at dd_Mo_doNext 29 rfl
theorem d_Mo_doNext_48 : decode prog_14_method_67_code 48 = .ok (.iload 4, 2) := dd_at dd_Mo_doNext 30 rfl
theorem d_Mo_doNext_50 : decode prog_14_method_67_code 50 = .ok (.daload, 1) := dd_at dd_Mo_doNext 31 rfl
theorem d_Mo_doNext_51 : decode prog_14_method_67_code 51 = .ok (.dadd, 1) := dd_at dd_Mo_doNext 32 rfl
theorem d_Mo_doNext_52 : decode prog_14_method_67_code 52 = .ok (.invokevirtual 342, 3) := dd_at dd_Mo_doNext 33 rfl
theorem d_Mo_doNext_55 : decode prog_14_method_67_code 55 = .ok (.dstore 5, 2) := dd_at dd_Mo_doNext 34 rfl
theorem d_Mo_doNext_57 : decode prog_14_method_67_code 57 = .ok (.aload_n 0, 1) := dd_at dd_Mo_doNext 35 rfl
theorem d_Mo_doNext_58 : decode prog_14_method_67_code 58 = .ok (.getfield 94, 3) := dd_at dd_Mo_doNext 36 rfl
theorem d_Mo_doNext_61 : decode prog_14_method_67_code 61 = .ok (.ifCond .eq (5), 3) := dd_at dd_Mo_doNext 37 rfl
theorem d_Mo_doNext_64 : decode prog_14_method_67_code 64 = .ok (.iload_n 2, 1) := dd_at dd_Mo_doNext 38 rfl
theorem d_Mo_doNext_65 : decode prog_14_method_67_code 65 = .ok (.ireturn, 1) := dd_at dd_Mo_doNext 39 rfl
theorem d_Mo_doNext_66 : decode prog_14_method_67_code 66 = .ok (.aload_n 0, 1) := dd_at dd_Mo_doNext 40 rfl
theorem d_Mo_doNext_67 : decode prog_14_method_67_code 67 = .ok (.getfield 101, 3) := dd_at dd_Mo_doNext 41 rfl
theorem d_Mo_doNext_70 : decode prog_14_method_67_code 70 = .ok (.iload_n 3, 1) := dd_at dd_Mo_doNext 42 rfl
theorem d_Mo_doNext_71 : decode prog_14_method_67_code 71 = .ok (.dload 5, 2) := dd_at dd_Mo_doNext 43 rfl
theorem d_Mo_doNext_73 : decode prog_14_method_67_code 73 = .ok (.dastore, 1) := dd_at dd_Mo_doNext 44 rfl
theorem d_Mo_doNext_74 : decode prog_14_method_67_code 74 = .ok (.aload_n 0, 1) := dd_at dd_Mo_doNext 45 rfl
theorem d_Mo_doNext_75 : decode prog_14_method_67_code 75 = .ok (.dload 5, 2) := dd_at dd_Mo_doNext 46 rfl
theorem d_Mo_doNext_77 : decode prog_14_method_67_code 77 = .ok (.aload_n 0, 1) := dd_at dd_Mo_doNext 47 rfl
theorem d_Mo_doNext_78 : decode prog_14_method_67_code 78 = .ok (.getfield 110, 3) := dd_at dd_Mo_doNext 48 rfl
theorem d_Mo_doNext_81 : decode prog_14_method_67_code 81 = .ok (.iload 4, 2) := dd_at dd_Mo_doNext 49 rfl
theorem d_Mo_doNext_83 : decode prog_14_method_67_code 83 = .ok (.daload, 1) := dd_at dd_Mo_doNext 50 rfl
theorem d_Mo_doNext_84 : decode prog_14_method_67_code 84 = .ok (.aload_n 0, 1) := dd_at dd_Mo_doNext 51 rfl
theorem d_Mo_doNext_85 : decode prog_14_method_67_code 85 = .ok (.getfield 113, 3) := dd_at dd_Mo_doNext 52 rfl
theorem d_Mo_doNext_88 : decode prog_14_method_67_code 88 = .ok (.iload 4, 2) := dd_at dd_Mo_doNext 53 rfl
theorem d_Mo_doNext_90 : decode prog_14_method_67_code 90 = .ok (.daload, 1) := dd_at dd_Mo_doNext 54 rfl
theorem d_Mo_doNext_91 : decode prog_14_method_67_code 91 = .ok (.invokevirtual 398, 3) := dd_at dd_Mo_doNext 55 rfl
theorem d_Mo_doNext_94 : decode prog_14_method_67_code 94 = .ok (.ifCond .ne (20), 3) := dd_at dd_Mo_doNext 56 rfl
theorem d_Mo_doNext_97 : decode prog_14_method_67_code 97 = .ok (.aload_n 0, 1) := dd_at dd_Mo_doNext 57 rfl
theorem d_Mo_doNext_98 : decode prog_14_method_67_code 98 = .ok (.aload_n 0, 1) := dd_at dd_Mo_doNext 58 rfl
theorem d_Mo_doNext_99 : decode prog_14_method_67_code 99 = .ok (.getfield 42, 3) := dd_at dd_Mo_doNext 59 rfl
theorem d_Mo_doNext_102 : decode prog_14_method_67_code 102 = .ok (.aload_n 0, 1) := dd_at dd_Mo_doNext 60 rfl
theorem d_Mo_doNext_103 : decode prog_14_method_67_code 103 = .ok (.getfield 140, 3) := dd_at dd_Mo_doNext 61 rfl
theorem d_Mo_doNext_106 : decode prog_14_method_67_code 106 = .ok (.iload 4, 2) := dd_at dd_Mo_doNext 62 rfl
theorem d_Mo_doNext_108 : decode prog_14_method_67_code 108 = .ok (.iaload, 1) := dd_at dd_Mo_doNext 63 rfl
theorem d_Mo_doNext_109 : decode prog_14_method_67_code 109 = .ok (.iaload, 1) := dd_at dd_Mo_doNext 64 rfl
theorem d_Mo_doNext_110 : decode prog_14_method_67_code 110 = .ok (.invokevirtual 389, 3) := dd_at dd_Mo_doNext 65 rfl
theorem d_Mo_doNext_113 : decode prog_14_method_67_code 113 = .ok (.ireturn, 1) := dd_at dd_Mo_doNext 66 rfl
theorem d_Mo_doNext_114 : decode prog_14_method_67_code 114 = .ok (.aload_n 0, 1) := dd_at dd_Mo_doNext 67 rfl
theorem d_Mo_doNext_115 : decode prog_14_method_67_code 115 = .ok (.iload 4, 2) := dd_at dd_Mo_doNext 68 rfl
theorem d_Mo_doNext_117 : decode prog_14_method_67_code 117 = .ok (.putfield 82, 3) := dd_at dd_Mo_doNext 69 rfl
theorem d_Mo_doNext_120 : decode prog_14_method_67_code 120 = .ok (.iload_n 2, 1) := dd_at dd_Mo_doNext 70 rfl
theorem d_Mo_doNext_121 : decode prog_14_method_67_code 121 = .ok (.ireturn, 1) := dd_at dd_Mo_doNext 71 rfl
def ld_Mo_choose : List (Nat × Instr × Nat) := [(0, .aload_n 0, 1), (1, .aload_n 0, 1), (2, .getfield 52, 3), (5, .iload_n 1, 1), (6, .iconst 4, 1), (7, .imul, 1), (8, .iaload, 1), (9, .invokevirtual 392, 3), (12, .dstore_n 2, 1), (13, .aload_n 0, 1), (14, .getfield 94, 3), (17, .ifCond .eq (5), 3), (20, .iconst (-1), 1), (21, .ireturn, 1), (22, .dload_n 2, 1), (23, .d2l, 1), (24, .lstore 4, 2), (26, .lload 4, 2), (28, .lconst 1, 1), (29, .lcmp, 1), (30, .ifCond .lt (19), 3), (33, .lload 4, 2), (35, .aload_n 0, 1), (36, .getfield 49, 3), (39, .iload_n 1, 1), (40, .bipush (8), 2), (42, .imul, 1), (43, .iaload, 1), (44, .i2l, 1), (45, .lcmp, 1), (46, .ifCond .le (10), 3), (49, .aload_n 0, 1), (50, .iconst 1, 1), (51, .putfield 94, 3), (54, .iconst (-1), 1), (55, .ireturn, 1), (56, .aload_n 0, 1), (57, .aload_n 0, 1), (58, .getfield 49, 3), (61, .iload_n 1, 1), (62, .bipush (8), 2), (64, .imul, 1), (65, .lload 4, 2), (67, .l2i, 1), (68, .iadd, 1), (69, .iaload, 1), (70, .invokevirtual 402, 3), (73, .ireturn, 1)]
theorem dd_Mo_choose : (ld_Mo_choose).all (dOK prog_14_method_68_code) = true := by decide +kernel
theorem d_Mo_choose_0 : decode prog_14_method_68_code 0 = .ok (.aload_n 0, 1) := dd_at dd_Mo_choose 0 rfl
theorem d_Mo_choose_1 : decode prog_14_method_68_code 1 = .ok (.aload_n 0, 1) := dd_at dd_Mo_choose 1 rfl
theorem d_Mo_choose_2 : decode prog_14_method_68_code 2 = .ok (.getfield 52, 3) := dd_at dd_Mo_choose 2 rfl
theorem d_Mo_choose_5 : decode prog_14_method_68_code 5 = .ok (.iload_n 1, 1) := dd_at dd_Mo_choose 3 rfl
theorem d_Mo_choose_6 : decode prog_14_method_68_code 6 = .ok (.iconst 4, 1) := dd_at dd_Mo_choose 4 rfl
theorem d_Mo_choose_7 : decode prog_14_method_68_code 7 = .ok (.imul, 1) := dd_at dd_Mo_choose 5 rfl
theorem d_Mo_choose_8 : decode prog_14_method_68_code 8 = .ok (.iaload, 1) := dd_at dd_Mo_choose 6 rfl
theorem d_Mo_choose_9 : decode prog_14_method_68_code 9 = .ok (.invokevirtual 392, 3) := dd_at dd_Mo_choose 7 rfl
theorem d_Mo_choose_12 : decode prog_14_method_68_code 12 = .ok (.dstore_n 2, 1) := dd_at dd_Mo_choose 8 rfl
theorem d_Mo_choose_13 : decode prog_14_method_68_code 13 = .ok (.aload_n 0, 1) := dd_at dd_Mo_choose 9 rfl
theorem d_Mo_choose_14 : decode prog_14_method_68_code 14 = .ok (.getfield 94, 3) := dd_at dd_Mo_choose 10 rfl
theorem d_Mo_choose_17 : decode prog_14_method_68_code 17 = .ok (.ifCond .eq (5), 3) := dd_at dd_Mo_choose 11 rfl
theorem d_Mo_choose_20 : decode prog_14_method_68_code 20 = .ok (.iconst (-1), 1) := dd_at dd_Mo_choose 12 rfl
theorem d_Mo_choose_21 : decode prog_14_method_68_code 21 = .ok (.ireturn, 1) := dd_at dd_Mo_choose 13 rfl
theorem d_Mo_choose_22 : decode prog_14_method_68_code 22 = .ok (.dload_n 2, 1) := dd_at dd_Mo_choose 14 rfl
theorem d_Mo_choose_23 : decode prog_14_method_68_code 23 = .ok (.d2l, 1) := dd_at dd_Mo_choose 15 rfl
theorem d_Mo_choose_24 : decode prog_14_method_68_code 24 = .ok (.lstore 4, 2) := dd_at dd_Mo_choose 16 rfl
theorem d_Mo_choose_26 : decode prog_14_method_68_code 26 = .ok (.lload 4, 2) := dd_at dd_Mo_choose 17 rfl
theorem d_Mo_choose_28 : decode prog_14_method_68_code 28 = .ok (.lconst 1, 1) := dd_at dd_Mo_choose 18 rfl
theorem d_Mo_choose_29 : decode prog_14_method_68_code 29 = .ok (.lcmp, 1) := dd_at dd_Mo_choose 19 rfl
theorem d_Mo_choose_30 : decode prog_14_method_68_code 30 = .ok (.ifCond .lt (19), 3) := dd_at dd_Mo_choose 20 rfl
theorem d_Mo_choose_33 : decode prog_14_method_68_code 33 = .ok (.lload 4, 2) := dd_at dd_Mo_choose 21 rfl
theorem d_Mo_choose_35 : decode prog_14_method_68_code 35 = .ok (.aload_n 0, 1) := dd_at dd_Mo_choose 22 rfl
theorem d_Mo_choose_36 : decode prog_14_method_68_code 36 = .ok (.getfield 49, 3) := dd_at dd_Mo_choose 23 rfl
theorem d_Mo_choose_39 : decode prog_14_method_68_code 39 = .ok (.iload_n 1, 1) := dd_at dd_Mo_choose 24 rfl
theorem d_Mo_choose_40 : decode prog_14_method_68_code 40 = .ok (.bipush (8), 2) := dd_at dd_Mo_choose 25 rfl
theorem d_Mo_choose_42 : decode prog_14_method_68_code 42 = .ok (.imul, 1) := dd_at dd_Mo_choose 26 rfl
theorem d_Mo_choose_43 : decode prog_14_method_68_code 43 = .ok (.iaload, 1) := dd_at dd_Mo_choose 27 rfl
theorem d_Mo_choose_44 : decode prog_14_method_68_code 44 = .ok (.i2l, 1) := dd_at dd_Mo_choose 28 rfl
theorem d_Mo_choose_45 : decode prog_14_method_68_code 45 = .ok (.lcmp, 1) := dd_at dd_Mo_choose 29 rfl
theorem d_Mo_choose_46 : decode prog_14_method_68_code 46 = .ok (.ifCond .le (10), 3) := dd_at dd_Mo_choose 30 rfl
theorem d_Mo_choose_49 : decode prog_14_method_68_code 49 = .ok (.aload_n 0, 1) := dd_at dd_Mo_choose 31 rfl
theorem d_Mo_choose_50 : decode prog_14_method_68_code 50 = .ok (.iconst 1, 1) := dd_at dd_Mo_choose 32 rfl
theorem d_Mo_choose_51 : decode prog_14_method_68_code 51 = .ok (.putfield 94, 3) := dd_at dd_Mo_choose 33 rfl
theorem d_Mo_choose_54 : decode prog_14_method_68_code 54 = .ok (.iconst (-1), 1) := dd_at dd_Mo_choose 34 rfl
theorem d_Mo_choose_55 : decode prog_14_method_68_code 55 = .ok (.ireturn, 1) := dd_at dd_Mo_choose 35 rfl
theorem d_Mo_choose_56 : decode prog_14_method_68_code 56 = .ok (.aload_n 0, 1) := dd_at dd_Mo_choose 36 rfl
theorem d_Mo_choose_57 : decode prog_14_method_68_code 57 = .ok (.aload_n 0, 1) := dd_at dd_Mo_choose 37 rfl
theorem d_Mo_choose_58 : decode prog_14_method_68_code 58 = .ok (.getfield 49, 3) := dd_at dd_Mo_choose 38 rfl
theorem d_Mo_choose_61 : decode prog_14_method_68_code 61 = .ok (.iload_n 1, 1) := dd_at dd_Mo_choose 39 rfl
theorem d_Mo_choose_62 : decode prog_14_method_68_code 62 = .ok (.bipush (8), 2) := dd_at dd_Mo_choose 40 rfl
theorem d_Mo_choose_64 : decode prog_14_method_68_code 64 = .ok (.imul, 1) := dd_at dd_Mo_choose 41 rfl
theorem d_Mo_choose_65 : decode prog_14_method_68_code 65 = .ok (.lload 4, 2) := dd_at dd_Mo_choose 42 rfl
theorem d_Mo_choose_67 : decode prog_14_method_68_code 67 = .ok (.l2i, 1) := dd_at dd_Mo_choose 43 rfl
theorem d_Mo_choose_68 : decode prog_14_method_68_code 68 = .ok (.iadd, 1) := dd_at dd_Mo_choose 44 rfl
theorem d_Mo_choose_69 : decode prog_14_method_68_code 69 = .ok (.iaload, 1) := dd_at dd_Mo_choose 45 rfl
theorem d_Mo_choose_70 : decode prog_14_method_68_code 70 = .ok (.invokevirtual 402, 3) := dd_at dd_Mo_choose 46 rfl
theorem d_Mo_choose_73 : decode prog_14_method_68_code 73 = .ok (.ireturn, 1) := dd_at dd_Mo_choose 47 rfl
def ld_Mo_goSub : List (Nat × Instr × Nat) := [(0, .aload_n 0, 1), (1, .getfield 79, 3), (4, .bipush (8), 2), (6, .if_icmp .ne (10), 3), (9, .aload_n 0, 1), (10, .iconst 2, 1), (11, .putfield 94, 3), (14, .iconst (-1), 1), (15, .ireturn, 1), (16, .aload_n 0, 1), (17, .aload_n 0, 1), (18, .getfield 49, 3), (21, .iload_n 1, 1), (22, .bipush (8), 2), (24, .imul, 1), (25, .iaload, 1), (26, .invokevirtual 402, 3), (29, .istore_n 3, 1), (30, .aload_n 0, 1), (31, .getfield 94, 3), (34, .ifCond .ne (23), 3), (37, .aload_n 0, 1), (38, .getfield 134, 3), (41, .aload_n 0, 1), (42, .getfield 79, 3), (45, .iload_n 2, 1), (46, .iastore, 1), (47, .aload_n 0, 1), (48, .dup, 1), (49, .getfield 79, 3), (52, .iconst 1, 1), (53, .iadd, 1), (54, .putfield 79, 3), (57, .iload_n 3, 1), (58, .ireturn, 1)]
theorem dd_Mo_goSub : (ld_Mo_goSub).all (dOK prog_14_method_69_code) = true := by decide +kernel
theorem d_Mo_goSub_0 : decode prog_14_method_69_code 0 = .ok (.aload_n 0, 1) := dd_at dd_Mo_goSub 0 rfl
theorem d_Mo_goSub_1 : decode prog_14_method_69_code 1 = .ok (.getfield 79, 3) := dd_at dd_Mo_goSub 1 rfl
theorem d_Mo_goSub_4 : decode prog_14_method_69_code 4 = .ok (.bipush (8), 2) := dd_at dd_Mo_goSub 2 rfl
theorem d_Mo_goSub_6 : decode prog_14_method_69_code 6 = .ok (.if_icmp .ne (10), 3) := dd_at dd_Mo_goSub 3 rfl
theorem d_Mo_goSub_9 : decode prog_14_method_69_code 9 = .ok (.aload_n 0, 1) := dd_at dd_Mo_goSub 4 rfl
theorem d_Mo_goSub_10 : decode prog_14_method_69_code 10 = .ok (.iconst 2, 1) := dd_at dd_Mo_goSub 5 rfl
theorem d_Mo_goSub_11 : decode prog_14_method_69_code 11 = .ok (.putfield 94, 3) := dd_at dd_Mo_goSub 6 rfl
theorem d_Mo_goSub_14 : decode prog_14_method_69_code 14 = .ok (.iconst (-1), 1) := dd_at dd_Mo_goSub 7 rfl
theorem d_Mo_goSub_15 : decode prog_14_method_69_code 15 = .ok (.ireturn, 1) := dd_at dd_Mo_goSub 8 rfl
theorem d_Mo_goSub_16 : decode prog_14_method_69_code 16 = .ok (.aload_n 0, 1) := dd_at dd_Mo_goSub 9 rfl
theorem d_Mo_goSub_17 : decode prog_14_method_69_code 17 = .ok (.aload_n 0, 1) := dd_at dd_Mo_goSub 10 rfl
theorem d_Mo_goSub_18 : decode prog_14_method_69_code 18 = .ok (.getfield 49, 3) := dd_at dd_Mo_goSub 11 rfl
theorem d_Mo_goSub_21 : decode prog_14_method_69_code 21 = .ok (.iload_n 1, 1) := dd_at dd_Mo_goSub 12 rfl
theorem d_Mo_goSub_22 : decode prog_14_method_69_code 22 = .ok (.bipush (8), 2) := dd_at dd_Mo_goSub 13 rfl
theorem d_Mo_goSub_24 : decode prog_14_method_69_code 24 = .ok (.imul, 1) := dd_at dd_Mo_goSub 14 rfl
theorem d_Mo_goSub_25 : decode prog_14_method_69_code 25 = .ok (.iaload, 1) := dd_at dd_Mo_goSub 15 rfl
theorem d_Mo_goSub_26 : decode prog_14_method_69_code 26 = .ok (.invokevirtual 402, 3) := dd_at dd_Mo_goSub 16 rfl
theorem d_Mo_goSub_29 : decode prog_14_method_69_code 29 = .ok (.istore_n 3, 1) := dd_at dd_Mo_goSub 17 rfl
theorem d_Mo_goSub_30 : decode prog_14_method_69_code 30 = .ok (.aload_n 0, 1) := dd_at dd_Mo_goSub 18 rfl
theorem d_Mo_goSub_31 : decode prog_14_method_69_code 31 = .ok (.getfield 94, 3) := dd_at dd_Mo_goSub 19 rfl
theorem d_Mo_goSub_34 : decode prog_14_method_69_code 34 = .ok (.ifCond .ne (23), 3) := dd_at dd_Mo_goSub 20 rfl
theorem d_Mo_goSub_37 : decode prog_14_method_69_code 37 = .ok (.aload_n 0, 1) := dd_at dd_Mo_goSub 21 rfl
theorem d_Mo_goSub_38 : decode prog_14_method_69_code 38 = .ok (.getfield 134, 3) := dd_at dd_Mo_goSub 22 rfl
theorem d_Mo_goSub_41 : decode prog_14_method_69_code 41 = .ok (.aload_n 0, 1) := dd_at dd_Mo_goSub 23 rfl
theorem d_Mo_goSub_42 : decode prog_14_method_69_code 42 = .ok (.getfield 79, 3) := dd_at dd_Mo_goSub 24 rfl
theorem d_Mo_goSub_45 : decode prog_14_method_69_code 45 = .ok (.iload_n 2, 1) := dd_at dd_Mo_goSub 25 rfl
theorem d_Mo_goSub_46 : decode prog_14_method_69_code 46 = .ok (.iastore, 1) := dd_at dd_Mo_goSub 26 rfl
theorem d_Mo_goSub_47 : decode prog_14_method_69_code 47 = .ok (.aload_n 0, 1) := dd_at dd_Mo_goSub 27 rfl
theorem d_Mo_goSub_48 : decode prog_14_method_69_code 48 = .ok (.dup, 1) := dd_at dd_Mo_goSub 28 rfl
theorem d_Mo_goSub_49 : decode prog_14_method_69_code 49 = .ok (.getfield 79, 3) := dd_at dd_Mo_goSub 29 rfl
theorem d_Mo_goSub_52 : decode prog_14_method_69_code 52 = .ok (.iconst 1, 1) := dd_at dd_Mo_goSub 30 rfl
theorem d_Mo_goSub_53 : decode prog_14_method_69_code 53 = .ok (.iadd, 1) := dd_at dd_Mo_goSub 31 rfl
theorem d_Mo_goSub_54 : decode prog_14_method_69_code 54 = .ok (.putfield 79, 3) := dd_at dd_Mo_goSub 32 rfl
theorem d_Mo_goSub_57 : decode prog_14_method_69_code 57 = .ok (.iload_n 3, 1) := dd_at dd_Mo_goSub 33 rfl
theorem d_Mo_goSub_58 : decode prog_14_method_69_code 58 = .ok (.ireturn, 1) := dd_at dd_Mo_goSub 34 rfl
def ld_Mo_matCell : List (Nat × Instr × Nat) := [(0, .iload 4, 2), (2, .bipush (6), 2), (4, .imul, 1), (5, .iload 5, 2), (7, .iadd, 1), (8, .istore 8, 2), (10, .iload_n 1, 1), (11, .iconst 2, 1), (12, .if_icmp .ge (6), 3), (15, .iload_n 1, 1), (16, .i2d, 1), (17, .dreturn, 1), (18, .iload_n 1, 1), (19, .iconst 2, 1), (20, .if_icmp .ne (16), 3), (23, .iload 4, 2), (25, .iload 5, 2), (27, .if_icmp .ne (7), 3), (30, .dconst 1, 1), (31, .goto (4), 3), (34, .dconst 0, 1), (35, .dreturn, 1), (36, .iload_n 1, 1), (37, .iconst 3, 1), (38, .if_icmp .ne (22), 3), (41, .aload_n 0, 1), (42, .getfield 119, 3), (45, .iload_n 2, 1), (46, .bipush (36), 2), (48, .imul, 1), (49, .iload 5, 2), (51, .bipush (6), 2), (53, .imul, 1), (54, .iadd, 1), (55, .iload 4, 2), (57, .iadd, 1), (58, .daload, 1), (59, .dreturn, 1), (60, .iload_n 1, 1), (61, .iconst 4, 1), (62, .if_icmp .ne (23), 3), (65, .aload_n 0, 1), (66, .dload 6, 2), (68, .aload_n 0, 1), (69, .getfield 119, 3), (72, .iload_n 2, 1), (73, .bipush (36), 2), (75, .imul, 1), (76, .iload 8, 2), (78, .iadd, 1), (79, .daload, 1), (80, .dmul, 1), (81, .invokevirtual 342, 3), (84, .dreturn, 1), (85, .iload_n 1, 1), (86, .iconst 5, 1), (87, .if_icmp .ne (16), 3), (90, .aload_n 0, 1), (91, .getfield 119, 3), (94, .iload_n 2, 1), (95, .bipush (36), 2), (97, .imul, 1), (98, .iload 8, 2), (100, .iadd, 1), (101, .daload, 1), (102, .dreturn, 1), (103, .iload_n 1, 1), (104, .bipush (6), 2), (106, .if_icmp .ne (33), 3), (109, .aload_n 0, 1), (110, .aload_n 0, 1), (111, .getfield 119, 3), (114, .iload_n 2, 1), (115, .bipush (36), 2), (117, .imul, 1), (118, .iload 8, 2), (120, .iadd, 1), (121, .daload, 1), (122, .aload_n 0, 1), (123, .getfield 119, 3), (126, .iload_n 3, 1), (127, .bipush (36), 2), (129, .imul, 1), (130, .iload 8, 2), (132, .iadd, 1), (133, .daload, 1), (134, .dadd, 1), (135, .invokevirtual 342, 3), (138, .dreturn, 1), (139, .iload_n 1, 1), (140, .bipush (7), 2), (142, .if_icmp .ne (33), 3), (145, .aload_n 0, 1), (146, .aload_n 0, 1), (147, .getfield 119, 3), (150, .iload_n 2, 1), (151, .bipush (36), 2), (153, .imul, 1), (154, .iload 8, 2), (156, .iadd, 1), (157, .daload, 1), (158, .aload_n 0, 1), (159, .getfield 119, 3), (162, .iload_n 3, 1), (163, .bipush (36), 2), (165, .imul, 1), (166, .iload 8, 2), (168, .iadd, 1), (169, .daload, 1), (170, .dsub, 1), (171, .invokevirtual 342, 3), (174, .dreturn, 1), (175, .aload_n 0, 1), (176, .aload_n 0, 1), (177, .getfield 119, 3), (180, .iload_n 2, 1), (181, .bipush (36), 2), (183, .imul, 1), (184, .iload 4, 2), (186, .bipush (6), 2), (188, .imul, 1), (189, .iadd, 1), (190, .daload, 1), (191, .aload_n 0, 1), (192, .getfield 119, 3), (195, .iload_n 3, 1), (196, .bipush (36), 2), (198, .imul, 1), (199, .iload 5, 2), (201, .iadd, 1), (202, .daload, 1), (203, .dmul, 1), (204, .invokevirtual 342, 3), (207, .dstore 9, 2), (209, .iconst 1, 1), (210, .istore 11, 2), (212, .iload 11, 2), (214, .aload_n 0, 1), (215, .getfield 131, 3), (218, .iload_n 2, 1), (219, .iaload, 1), (220, .if_icmp .ge (77), 3), (223, .aload_n 0, 1), (224, .getfield 94, 3), (227, .ifCond .ne (70), 3), (230, .aload_n 0, 1), (231, .aload_n 0, 1), (232, .getfield 119, 3), (235, .iload_n 2, 1), (236, .bipush (36), 2), (238, .imul, 1), (239, .iload 4, 2), (241, .bipush (6), 2), (243, .imul, 1), (244, .iadd, 1), (245, .iload 11, 2), (247, .iadd, 1), (248, .daload, 1), (249, .aload_n 0, 1), (250, .getfield 119, 3), (253, .iload_n 3, 1), (254, .bipush (36), 2), (256, .imul, 1), (257, .iload 11, 2), (259, .bipush (6), 2), (261, .imul, 1), (262, .iadd, 1), (263, .iload 5, 2), (265, .iadd, 1), (266, .daload, 1), (267, .dmul, 1), (268, .invokevirtual 342, 3), (271, .dstore 12, 2), (273, .aload_n 0, 1), (274, .getfield 94, 3), (277, .ifCond .ne (14), 3), (280, .aload_n 0, 1), (281, .dload 9, 2), (283, .dload 12, 2), (285, .dadd, 1), (286, .invokevirtual 342, 3), (289, .dstore 9, 2), (291, .iinc 11 (1), 3), (294, .goto (-82), 3), (297, .dload 9, 2), (299, .dreturn, 1)]
theorem dd_Mo_matCell : (ld_Mo_matCell).all (dOK prog_14_method_70_code) = true := by decide +kernel
theorem d_Mo_matCell_0 : decode prog_14_method_70_code 0 = .ok (.iload 4, 2) := dd_at dd_Mo_matCell 0 rfl
theorem d_Mo_matCell_2 : decode prog_14_method_70_code 2 = .ok (.bipush (6), 2) := dd_at dd_Mo_matCell 1 rfl
theorem d_Mo_matCell_4 : decode prog_14_method_70_code 4 = .ok (.imul, 1) := dd_at dd_Mo_matCell 2 rfl
theorem d_Mo_matCell_5 : decode prog_14_method_70_code 5 = .ok (.iload 5, 2) := dd_at dd_Mo_matCell 3 rfl
theorem d_Mo_matCell_7 : decode prog_14_method_70_code 7 = .ok (.iadd, 1) := dd_at dd_Mo_matCell 4 rfl
theorem d_Mo_matCell_8 : decode prog_14_method_70_code 8 = .ok (.istore 8, 2) := dd_at dd_Mo_matCell 5 rfl
theorem d_Mo_matCell_10 : decode prog_14_method_70_code 10 = .ok (.iload_n 1, 1) := dd_at dd_Mo_matCell 6 rfl
theorem d_Mo_matCell_11 : decode prog_14_method_70_code 11 = .ok (.iconst 2, 1) := dd_at dd_Mo_matCell 7 rfl
theorem d_Mo_matCell_12 : decode prog_14_method_70_code 12 = .ok (.if_icmp .ge (6), 3) := dd_at dd_Mo_matCell 8 rfl
theorem d_Mo_matCell_15 : decode prog_14_method_70_code 15 = .ok (.iload_n 1, 1) := dd_at dd_Mo_matCell 9 rfl
theorem d_Mo_matCell_16 : decode prog_14_method_70_code 16 = .ok (.i2d, 1) := dd_at dd_Mo_matCell 10 rfl
theorem d_Mo_matCell_17 : decode prog_14_method_70_code 17 = .ok (.dreturn, 1) := dd_at dd_Mo_matCell 11 rfl
theorem d_Mo_matCell_18 : decode prog_14_method_70_code 18 = .ok (.iload_n 1, 1) := dd_at dd_Mo_matCell 12 rfl
theorem d_Mo_matCell_19 : decode prog_14_method_70_code 19 = .ok (.iconst 2, 1) := dd_at dd_Mo_matCell 13 rfl
theorem d_Mo_matCell_20 : decode prog_14_method_70_code 20 = .ok (.if_icmp .ne (16), 3) := dd_at dd_Mo_matCell 14 rfl
theorem d_Mo_matCell_23 : decode prog_14_method_70_code 23 = .ok (.iload 4, 2) := dd_at dd_Mo_matCell 15 rfl
theorem d_Mo_matCell_25 : decode prog_14_method_70_code 25 = .ok (.iload 5, 2) := dd_at dd_Mo_matCell 16 rfl
theorem d_Mo_matCell_27 : decode prog_14_method_70_code 27 = .ok (.if_icmp .ne (7), 3) := dd_at dd_Mo_matCell 17 rfl
theorem d_Mo_matCell_30 : decode prog_14_method_70_code 30 = .ok (.dconst 1, 1) := dd_at dd_Mo_matCell 18 rfl
theorem d_Mo_matCell_31 : decode prog_14_method_70_code 31 = .ok (.goto (4), 3) := dd_at dd_Mo_matCell 19 rfl
theorem d_Mo_matCell_34 : decode prog_14_method_70_code 34 = .ok (.dconst 0, 1) := dd_at dd_Mo_matCell 20 rfl
theorem d_Mo_matCell_35 : decode prog_14_method_70_code 35 = .ok (.dreturn, 1) := dd_at dd_Mo_matCell 21 rfl
theorem d_Mo_matCell_36 : decode prog_14_method_70_code 36 = .ok (.iload_n 1, 1) := dd_at dd_Mo_matCell 22 rfl
theorem d_Mo_matCell_37 : decode prog_14_method_70_code 37 = .ok (.iconst 3, 1) := dd_at dd_Mo_matCell 23 rfl
theorem d_Mo_matCell_38 : decode prog_14_method_70_code 38 = .ok (.if_icmp .ne (22), 3) := dd_at dd_Mo_matCell 24 rfl
theorem d_Mo_matCell_41 : decode prog_14_method_70_code 41 = .ok (.aload_n 0, 1) := dd_at dd_Mo_matCell 25 rfl
theorem d_Mo_matCell_42 : decode prog_14_method_70_code 42 = .ok (.getfield 119, 3) := dd_at dd_Mo_matCell 26 rfl
theorem d_Mo_matCell_45 : decode prog_14_method_70_code 45 = .ok (.iload_n 2, 1) := dd_at dd_Mo_matCell 27 rfl
theorem d_Mo_matCell_46 : decode prog_14_method_70_code 46 = .ok (.bipush (36), 2) := dd_at dd_Mo_matCell 28 rfl
theorem d_Mo_matCell_48 : decode prog_14_method_70_code 48 = .ok (.imul, 1) := dd_at dd_Mo_matCell 29 rfl
theorem d_Mo_matCell_49 : decode prog_14_method_70_code 49 = .ok (.iload 5, 2) := dd_at dd_Mo_matCell 30 rfl
theorem d_Mo_matCell_51 : decode prog_14_method_70_code 51 = .ok (.bipush (6), 2) := dd_at dd_Mo_matCell 31 rfl
theorem d_Mo_matCell_53 : decode prog_14_method_70_code 53 = .ok (.imul, 1) := dd_at dd_Mo_matCell 32 rfl
theorem d_Mo_matCell_54 : decode prog_14_method_70_code 54 = .ok (.iadd, 1) := dd_at dd_Mo_matCell 33 rfl
theorem d_Mo_matCell_55 : decode prog_14_method_70_code 55 = .ok (.iload 4, 2) := dd_at dd_Mo_matCell 34 rfl
theorem d_Mo_matCell_57 : decode prog_14_method_70_code 57 = .ok (.iadd, 1) := dd_at dd_Mo_matCell 35 rfl
theorem d_Mo_matCell_58 : decode prog_14_method_70_code 58 = .ok (.daload, 1) := dd_at dd_Mo_matCell 36 rfl
theorem d_Mo_matCell_59 : decode prog_14_method_70_code 59 = .ok (.dreturn, 1) := dd_at dd_Mo_matCell 37 rfl
theorem d_Mo_matCell_60 : decode prog_14_method_70_code 60 = .ok (.iload_n 1, 1) := dd_at dd_Mo_matCell 38 rfl
theorem d_Mo_matCell_61 : decode prog_14_method_70_code 61 = .ok (.iconst 4, 1) := dd_at dd_Mo_matCell 39 rfl
theorem d_Mo_matCell_62 : decode prog_14_method_70_code 62 = .ok (.if_icmp .ne (23), 3) := dd_at dd_Mo_matCell 40 rfl
theorem d_Mo_matCell_65 : decode prog_14_method_70_code 65 = .ok (.aload_n 0, 1) := dd_at dd_Mo_matCell 41 rfl
theorem d_Mo_matCell_66 : decode prog_14_method_70_code 66 = .ok (.dload 6, 2) := dd_at dd_Mo_matCell 42 rfl
theorem d_Mo_matCell_68 : decode prog_14_method_70_code 68 = .ok (.aload_n 0, 1) := dd_at dd_Mo_matCell 43 rfl
theorem d_Mo_matCell_69 : decode prog_14_method_70_code 69 = .ok (.getfield 119, 3) := dd_at dd_Mo_matCell 44 rfl
theorem d_Mo_matCell_72 : decode prog_14_method_70_code 72 = .ok (.iload_n 2, 1) := dd_at dd_Mo_matCell 45 rfl
theorem d_Mo_matCell_73 : decode prog_14_method_70_code 73 = .ok (.bipush (36), 2) := dd_at dd_Mo_matCell 46 rfl
theorem d_Mo_matCell_75 : decode prog_14_method_70_code 75 = .ok (.imul, 1) := dd_at dd_Mo_matCell 47 rfl
theorem d_Mo_matCell_76 : decode prog_14_method_70_code 76 = .ok (.iload 8, 2) := dd_at dd_Mo_matCell 48 rfl
theorem d_Mo_matCell_78 : decode prog_14_method_70_code 78 = .ok (.iadd, 1) := dd_at dd_Mo_matCell 49 rfl
theorem d_Mo_matCell_79 : decode prog_14_method_70_code 79 = .ok (.daload, 1) := dd_at dd_Mo_matCell 50 rfl
theorem d_Mo_matCell_80 : decode prog_14_method_70_code 80 = .ok (.dmul, 1) := dd_at dd_Mo_matCell 51 rfl
theorem d_Mo_matCell_81 : decode prog_14_method_70_code 81 = .ok (.invokevirtual 342, 3) := dd_at dd_Mo_matCell 52 rfl
theorem d_Mo_matCell_84 : decode prog_14_method_70_code 84 = .ok (.dreturn, 1) := dd_at dd_Mo_matCell 53 rfl
theorem d_Mo_matCell_85 : decode prog_14_method_70_code 85 = .ok (.iload_n 1, 1) := dd_at dd_Mo_matCell 54 rfl
theorem d_Mo_matCell_86 : decode prog_14_method_70_code 86 = .ok (.iconst 5, 1) := dd_at dd_Mo_matCell 55 rfl
theorem d_Mo_matCell_87 : decode prog_14_method_70_code 87 = .ok (.if_icmp .ne (16), 3) := dd_at dd_Mo_matCell 56 rfl
theorem d_Mo_matCell_90 : decode prog_14_method_70_code 90 = .ok (.aload_n 0, 1) := dd_at dd_Mo_matCell 57 rfl
theorem d_Mo_matCell_91 : decode prog_14_method_70_code 91 = .ok (.getfield 119, 3) := dd_at dd_Mo_matCell 58 rfl
theorem d_Mo_matCell_94 : decode prog_14_method_70_code 94 = .ok (.iload_n 2, 1) := dd_at dd_Mo_matCell 59 rfl
theorem d_Mo_matCell_95 : decode prog_14_method_70_code 95 = .ok (.bipush (36), 2) := dd_at dd_Mo_matCell 60 rfl
theorem d_Mo_matCell_97 : decode prog_14_method_70_code 97 = .ok (.imul, 1) := dd_at dd_Mo_matCell 61 rfl
theorem d_Mo_matCell_98 : decode prog_14_method_70_code 98 = .ok (.iload 8, 2) := dd_at dd_Mo_matCell 62 rfl
theorem d_Mo_matCell_100 : decode prog_14_method_70_code 100 = .ok (.iadd, 1) := dd_at dd_Mo_matCell 63 rfl
theorem d_Mo_matCell_101 : decode prog_14_method_70_code 101 = .ok (.daload, 1) := dd_at dd_Mo_matCell 64 rfl
theorem d_Mo_matCell_102 : decode prog_14_method_70_code 102 = .ok (.dreturn, 1) := dd_at dd_Mo_matCell 65 rfl
theorem d_Mo_matCell_103 : decode prog_14_method_70_code 103 = .ok (.iload_n 1, 1) := dd_at dd_Mo_matCell 66 rfl
theorem d_Mo_matCell_104 : decode prog_14_method_70_code 104 = .ok (.bipush (6), 2) := dd_at dd_Mo_matCell 67 rfl
theorem d_Mo_matCell_106 : decode prog_14_method_70_code 106 = .ok (.if_icmp .ne (33), 3) := dd_at dd_Mo_matCell 68 rfl
theorem d_Mo_matCell_109 : decode prog_14_method_70_code 109 = .ok (.aload_n 0, 1) := dd_at dd_Mo_matCell 69 rfl
theorem d_Mo_matCell_110 : decode prog_14_method_70_code 110 = .ok (.aload_n 0, 1) := dd_at dd_Mo_matCell 70 rfl
theorem d_Mo_matCell_111 : decode prog_14_method_70_code 111 = .ok (.getfield 119, 3) := dd_at dd_Mo_matCell 71 rfl
theorem d_Mo_matCell_114 : decode prog_14_method_70_code 114 = .ok (.iload_n 2, 1) := dd_at dd_Mo_matCell 72 rfl
theorem d_Mo_matCell_115 : decode prog_14_method_70_code 115 = .ok (.bipush (36), 2) := dd_at dd_Mo_matCell 73 rfl
theorem d_Mo_matCell_117 : decode prog_14_method_70_code 117 = .ok (.imul, 1) := dd_at dd_Mo_matCell 74 rfl
theorem d_Mo_matCell_118 : decode prog_14_method_70_code 118 = .ok (.iload 8, 2) := dd_at dd_Mo_matCell 75 rfl
theorem d_Mo_matCell_120 : decode prog_14_method_70_code 120 = .ok (.iadd, 1) := dd_at dd_Mo_matCell 76 rfl
theorem d_Mo_matCell_121 : decode prog_14_method_70_code 121 = .ok (.daload, 1) := dd_at dd_Mo_matCell 77 rfl
theorem d_Mo_matCell_122 : decode prog_14_method_70_code 122 = .ok (.aload_n 0, 1) := dd_at dd_Mo_matCell 78 rfl
theorem d_Mo_matCell_123 : decode prog_14_method_70_code 123 = .ok (.getfield 119, 3) := dd_at dd_Mo_matCell 79 rfl
theorem d_Mo_matCell_126 : decode prog_14_method_70_code 126 = .ok (.iload_n 3, 1) := dd_at dd_Mo_matCell 80 rfl
theorem d_Mo_matCell_127 : decode prog_14_method_70_code 127 = .ok (.bipush (36), 2) := dd_at dd_Mo_matCell 81 rfl
theorem d_Mo_matCell_129 : decode prog_14_method_70_code 129 = .ok (.imul, 1) := dd_at dd_Mo_matCell 82 rfl
theorem d_Mo_matCell_130 : decode prog_14_method_70_code 130 = .ok (.iload 8, 2) := dd_at dd_Mo_matCell 83 rfl
theorem d_Mo_matCell_132 : decode prog_14_method_70_code 132 = .ok (.iadd, 1) := dd_at dd_Mo_matCell 84 rfl
theorem d_Mo_matCell_133 : decode prog_14_method_70_code 133 = .ok (.daload, 1) := dd_at dd_Mo_matCell 85 rfl
theorem d_Mo_matCell_134 : decode prog_14_method_70_code 134 = .ok (.dadd, 1) := dd_at dd_Mo_matCell 86 rfl
theorem d_Mo_matCell_135 : decode prog_14_method_70_code 135 = .ok (.invokevirtual 342, 3) := dd_at dd_Mo_matCell 87 rfl
theorem d_Mo_matCell_138 : decode prog_14_method_70_code 138 = .ok (.dreturn, 1) := dd_at dd_Mo_matCell 88 rfl
theorem d_Mo_matCell_139 : decode prog_14_method_70_code 139 = .ok (.iload_n 1, 1) := dd_at dd_Mo_matCell 89 rfl
theorem d_Mo_matCell_140 : decode prog_14_method_70_code 140 = .ok (.bipush (7), 2) := dd_at dd_Mo_matCell 90 rfl
theorem d_Mo_matCell_142 : decode prog_14_method_70_code 142 = .ok (.if_icmp .ne (33), 3) := dd_at dd_Mo_matCell 91 rfl
theorem d_Mo_matCell_145 : decode prog_14_method_70_code 145 = .ok (.aload_n 0, 1) := dd_at dd_Mo_matCell 92 rfl
theorem d_Mo_matCell_146 : decode prog_14_method_70_code 146 = .ok (.aload_n 0, 1) := dd_at dd_Mo_matCell 93 rfl
theorem d_Mo_matCell_147 : decode prog_14_method_70_code 147 = .ok (.getfield 119, 3) := dd_at dd_Mo_matCell 94 rfl
theorem d_Mo_matCell_150 : decode prog_14_method_70_code 150 = .ok (.iload_n 2, 1) := dd_at dd_Mo_matCell 95 rfl
theorem d_Mo_matCell_151 : decode prog_14_method_70_code 151 = .ok (.bipush (36), 2) := dd_at dd_Mo_matCell 96 rfl
theorem d_Mo_matCell_153 : decode prog_14_method_70_code 153 = .ok (.imul, 1) := dd_at dd_Mo_matCell 97 rfl
theorem d_Mo_matCell_154 : decode prog_14_method_70_code 154 = .ok (.iload 8, 2) := dd_at dd_Mo_matCell 98 rfl
theorem d_Mo_matCell_156 : decode prog_14_method_70_code 156 = .ok (.iadd, 1) := dd_at dd_Mo_matCell 99 rfl
theorem d_Mo_matCell_157 : decode prog_14_method_70_code 157 = .ok (.daload, 1) := dd_at dd_Mo_matCell 100 rfl
theorem d_Mo_matCell_158 : decode prog_14_method_70_code 158 = .ok (.aload_n 0, 1) := dd_at dd_Mo_matCell 101 rfl
theorem d_Mo_matCell_159 : decode prog_14_method_70_code 159 = .ok (.getfield 119, 3) := dd_at dd_Mo_matCell 102 rfl
theorem d_Mo_matCell_162 : decode prog_14_method_70_code 162 = .ok (.iload_n 3, 1) := dd_at dd_Mo_matCell 103 rfl
theorem d_Mo_matCell_163 : decode prog_14_method_70_code 163 = .ok (.bipush (36), 2) := dd_at dd_Mo_matCell 104 rfl
theorem d_Mo_matCell_165 : decode prog_14_method_70_code 165 = .ok (.imul, 1) := dd_at dd_Mo_matCell 105 rfl
theorem d_Mo_matCell_166 : decode prog_14_method_70_code 166 = .ok (.iload 8, 2) := dd_at dd_Mo_matCell 106 rfl
theorem d_Mo_matCell_168 : decode prog_14_method_70_code 168 = .ok (.iadd, 1) := dd_at dd_Mo_matCell 107 rfl
theorem d_Mo_matCell_169 : decode prog_14_method_70_code 169 = .ok (.daload, 1) := dd_at dd_Mo_matCell 108 rfl
theorem d_Mo_matCell_170 : decode prog_14_method_70_code 170 = .ok (.dsub, 1) := dd_at dd_Mo_matCell 109 rfl
theorem d_Mo_matCell_171 : decode prog_14_method_70_code 171 = .ok (.invokevirtual 342, 3) := dd_at dd_Mo_matCell 110 rfl
theorem d_Mo_matCell_174 : decode prog_14_method_70_code 174 = .ok (.dreturn, 1) := dd_at dd_Mo_matCell 111 rfl
theorem d_Mo_matCell_175 : decode prog_14_method_70_code 175 = .ok (.aload_n 0, 1) := dd_at dd_Mo_matCell 112 rfl
theorem d_Mo_matCell_176 : decode prog_14_method_70_code 176 = .ok (.aload_n 0, 1) := dd_at dd_Mo_matCell 113 rfl
theorem d_Mo_matCell_177 : decode prog_14_method_70_code 177 = .ok (.getfield 119, 3) := dd_at dd_Mo_matCell 114 rfl
theorem d_Mo_matCell_180 : decode prog_14_method_70_code 180 = .ok (.iload_n 2, 1) := dd_at dd_Mo_matCell 115 rfl
theorem d_Mo_matCell_181 : decode prog_14_method_70_code 181 = .ok (.bipush (36), 2) := dd_at dd_Mo_matCell 116 rfl
theorem d_Mo_matCell_183 : decode prog_14_method_70_code 183 = .ok (.imul, 1) := dd_at dd_Mo_matCell 117 rfl
theorem d_Mo_matCell_184 : decode prog_14_method_70_code 184 = .ok (.iload 4, 2) := dd_at dd_Mo_matCell 118 rfl
theorem d_Mo_matCell_186 : decode prog_14_method_70_code 186 = .ok (.bipush (6), 2) := dd_at dd_Mo_matCell 119 rfl
theorem d_Mo_matCell_188 : decode prog_14_method_70_code 188 = .ok (.imul, 1) := dd_at dd_Mo_matCell 120 rfl
theorem d_Mo_matCell_189 : decode prog_14_method_70_code 189 = .ok (.iadd, 1) := dd_at dd_Mo_matCell 121 rfl
theorem d_Mo_matCell_190 : decode prog_14_method_70_code 190 = .ok (.daload, 1) := dd_at dd_Mo_matCell 122 rfl
theorem d_Mo_matCell_191 : decode prog_14_method_70_code 191 = .ok (.aload_n 0, 1) := dd_at dd_Mo_matCell 123 rfl
theorem d_Mo_matCell_192 : decode prog_14_method_70_code 192 = .ok (.getfield 119, 3) := dd_at dd_Mo_matCell 124 rfl
theorem d_Mo_matCell_195 : decode prog_14_method_70_code 195 = .ok (.iload_n 3, 1) := dd_at dd_Mo_matCell 125 rfl
theorem d_Mo_matCell_196 : decode prog_14_method_70_code 196 = .ok (.bipush (36), 2) := dd_at dd_Mo_matCell 126 rfl
theorem d_Mo_matCell_198 : decode prog_14_method_70_code 198 = .ok (.imul, 1) := dd_at dd_Mo_matCell 127 rfl
theorem d_Mo_matCell_199 : decode prog_14_method_70_code 199 = .ok (.iload 5, 2) := dd_at dd_Mo_matCell 128 rfl
theorem d_Mo_matCell_201 : decode prog_14_method_70_code 201 = .ok (.iadd, 1) := dd_at dd_Mo_matCell 129 rfl
theorem d_Mo_matCell_202 : decode prog_14_method_70_code 202 = .ok (.daload, 1) := dd_at dd_Mo_matCell 130 rfl
theorem d_Mo_matCell_203 : decode prog_14_method_70_code 203 = .ok (.dmul, 1) := dd_at dd_Mo_matCell 131 rfl
theorem d_Mo_matCell_204 : decode prog_14_method_70_code 204 = .ok (.invokevirtual 342, 3) := dd_at dd_Mo_matCell 132 rfl
theorem d_Mo_matCell_207 : decode prog_14_method_70_code 207 = .ok (.dstore 9, 2) := dd_at dd_Mo_matCell 133 rfl
theorem d_Mo_matCell_209 : decode prog_14_method_70_code 209 = .ok (.iconst 1, 1) := dd_at dd_Mo_matCell 134 rfl
theorem d_Mo_matCell_210 : decode prog_14_method_70_code 210 = .ok (.istore 11, 2) := dd_at dd_Mo_matCell 135 rfl
theorem d_Mo_matCell_212 : decode prog_14_method_70_code 212 = .ok (.iload 11, 2) := dd_at dd_Mo_matCell 136 rfl
theorem d_Mo_matCell_214 : decode prog_14_method_70_code 214 = .ok (.aload_n 0, 1) := dd_at dd_Mo_matCell 137 rfl
theorem d_Mo_matCell_215 : decode prog_14_method_70_code 215 = .ok (.getfield 131, 3) := dd_at dd_Mo_matCell 138 rfl
theorem d_Mo_matCell_218 : decode prog_14_method_70_code 218 = .ok (.iload_n 2, 1) := dd_at dd_Mo_matCell 139 rfl
theorem d_Mo_matCell_219 : decode prog_14_method_70_code 219 = .ok (.iaload, 1) := dd_at dd_Mo_matCell 140 rfl
theorem d_Mo_matCell_220 : decode prog_14_method_70_code 220 = .ok (.if_icmp .ge (77), 3) := dd_at dd_Mo_matCell 141 rfl
theorem d_Mo_matCell_223 : decode prog_14_method_70_code 223 = .ok (.aload_n 0, 1) := dd_at dd_Mo_matCell 142 rfl
theorem d_Mo_matCell_224 : decode prog_14_method_70_code 224 = .ok (.getfield 94, 3) := dd_at dd_Mo_matCell 143 rfl
theorem d_Mo_matCell_227 : decode prog_14_method_70_code 227 = .ok (.ifCond .ne (70), 3) := dd_at dd_Mo_matCell 144 rfl
theorem d_Mo_matCell_230 : decode prog_14_method_70_code 230 = .ok (.aload_n 0, 1) := dd_at dd_Mo_matCell 145 rfl
theorem d_Mo_matCell_231 : decode prog_14_method_70_code 231 = .ok (.aload_n 0, 1) := dd_at dd_Mo_matCell 146 rfl
theorem d_Mo_matCell_232 : decode prog_14_method_70_code 232 = .ok (.getfield 119, 3) := dd_at dd_Mo_matCell 147 rfl
theorem d_Mo_matCell_235 : decode prog_14_method_70_code 235 = .ok (.iload_n 2, 1) := dd_at dd_Mo_matCell 148 rfl
theorem d_Mo_matCell_236 : decode prog_14_method_70_code 236 = .ok (.bipush (36), 2) := dd_at dd_Mo_matCell 149 rfl
theorem d_Mo_matCell_238 : decode prog_14_method_70_code 238 = .ok (.imul, 1) := dd_at dd_Mo_matCell 150 rfl
theorem d_Mo_matCell_239 : decode prog_14_method_70_code 239 = .ok (.iload 4, 2) := dd_at dd_Mo_matCell 151 rfl
theorem d_Mo_matCell_241 : decode prog_14_method_70_code 241 = .ok (.bipush (6), 2) := dd_at dd_Mo_matCell 152 rfl
theorem d_Mo_matCell_243 : decode prog_14_method_70_code 243 = .ok (.imul, 1) := dd_at dd_Mo_matCell 153 rfl
theorem d_Mo_matCell_244 : decode prog_14_method_70_code 244 = .ok (.iadd, 1) := dd_at dd_Mo_matCell 154 rfl
theorem d_Mo_matCell_245 : decode prog_14_method_70_code 245 = .ok (.iload 11, 2) := dd_at dd_Mo_matCell 155 rfl
theorem d_Mo_matCell_247 : decode prog_14_method_70_code 247 = .ok (.iadd, 1) := dd_at dd_Mo_matCell 156 rfl
theorem d_Mo_matCell_248 : decode prog_14_method_70_code 248 = .ok (.daload, 1) := dd_at dd_Mo_matCell 157 rfl
theorem d_Mo_matCell_249 : decode prog_14_method_70_code 249 = .ok (.aload_n 0, 1) := dd_at dd_Mo_matCell 158 rfl
theorem d_Mo_matCell_250 : decode prog_14_method_70_code 250 = .ok (.getfield 119, 3) := dd_at dd_Mo_matCell 159 rfl
theorem d_Mo_matCell_253 : decode prog_14_method_70_code 253 = .ok (.iload_n 3, 1) := dd_at dd_Mo_matCell 160 rfl
theorem d_Mo_matCell_254 : decode prog_14_method_70_code 254 = .ok (.bipush (36), 2) := dd_at dd_Mo_matCell 161 rfl
theorem d_Mo_matCell_256 : decode prog_14_method_70_code 256 = .ok (.imul, 1) := dd_at dd_Mo_matCell 162 rfl
theorem d_Mo_matCell_257 : decode prog_14_method_70_code 257 = .ok (.iload 11, 2) := dd_at dd_Mo_matCell 163 rfl
theorem d_Mo_matCell_259 : decode prog_14_method_70_code 259 = .ok (.bipush (6), 2) := dd_at dd_Mo_matCell 164 rfl
theorem d_Mo_matCell_261 : decode prog_14_method_70_code 261 = .ok (.imul, 1) := dd_at dd_Mo_matCell 165 rfl
theorem d_Mo_matCell_262 : decode prog_14_method_70_code 262 = .ok (.iadd, 1) := dd_at dd_Mo_matCell 166 rfl
theorem d_Mo_matCell_263 : decode prog_14_method_70_code 263 = .ok (.iload 5, 2) := dd_at dd_Mo_matCell 167 rfl
theorem d_Mo_matCell_265 : decode prog_14_method_70_code 265 = .ok (.iadd, 1) := dd_at dd_Mo_matCell 168 rfl
theorem d_Mo_matCell_266 : decode prog_14_method_70_code 266 = .ok (.daload, 1) := dd_at dd_Mo_matCell 169 rfl
theorem d_Mo_matCell_267 : decode prog_14_method_70_code 267 = .ok (.dmul, 1) := dd_at dd_Mo_matCell 170 rfl
theorem d_Mo_matCell_268 : decode prog_14_method_70_code 268 = .ok (.invokevirtual 342, 3) := dd_at dd_Mo_matCell 171 rfl
theorem d_Mo_matCell_271 : decode prog_14_method_70_code 271 = .ok (.dstore 12, 2) := dd_at dd_Mo_matCell 172 rfl
theorem d_Mo_matCell_273 : decode prog_14_method_70_code 273 = .ok (.aload_n 0, 1) := dd_at dd_Mo_matCell 173 rfl
theorem d_Mo_matCell_274 : decode prog_14_method_70_code 274 = .ok (.getfield 94, 3) := dd_at dd_Mo_matCell 174 rfl
theorem d_Mo_matCell_277 : decode prog_14_method_70_code 277 = .ok (.ifCond .ne (14), 3) := dd_at dd_Mo_matCell 175 rfl
theorem d_Mo_matCell_280 : decode prog_14_method_70_code 280 = .ok (.aload_n 0, 1) := dd_at dd_Mo_matCell 176 rfl
theorem d_Mo_matCell_281 : decode prog_14_method_70_code 281 = .ok (.dload 9, 2) := dd_at dd_Mo_matCell 177 rfl
theorem d_Mo_matCell_283 : decode prog_14_method_70_code 283 = .ok (.dload 12, 2) := dd_at dd_Mo_matCell 178 rfl
theorem d_Mo_matCell_285 : decode prog_14_method_70_code 285 = .ok (.dadd, 1) := dd_at dd_Mo_matCell 179 rfl
theorem d_Mo_matCell_286 : decode prog_14_method_70_code 286 = .ok (.invokevirtual 342, 3) := dd_at dd_Mo_matCell 180 rfl
theorem d_Mo_matCell_289 : decode prog_14_method_70_code 289 = .ok (.dstore 9, 2) := dd_at dd_Mo_matCell 181 rfl
theorem d_Mo_matCell_291 : decode prog_14_method_70_code 291 = .ok (.iinc 11 (1), 3) := dd_at dd_Mo_matCell 182 rfl
theorem d_Mo_matCell_294 : decode prog_14_method_70_code 294 = .ok (.goto (-82), 3) := dd_at dd_Mo_matCell 183 rfl
theorem d_Mo_matCell_297 : decode prog_14_method_70_code 297 = .ok (.dload 9, 2) := dd_at dd_Mo_matCell 184 rfl
theorem d_Mo_matCell_299 : decode prog_14_method_70_code 299 = .ok (.dreturn, 1) := dd_at dd_Mo_matCell 185 rfl
def ld_Mo_matFits : List (Nat × Instr × Nat) := [(0, .iload_n 1, 1), (1, .iconst 3, 1), (2, .if_icmp .ge (38), 3), (5, .aload_n 0, 1), (6, .getfield 128, 3), (9, .iload_n 2, 1), (10, .iaload, 1), (11, .ifCond .le (27), 3), (14, .iload_n 1, 1), (15, .iconst 2, 1), (16, .if_icmp .lt (18), 3), (19, .aload_n 0, 1), (20, .getfield 128, 3), (23, .iload_n 2, 1), (24, .iaload, 1), (25, .aload_n 0, 1), (26, .getfield 131, 3), (29, .iload_n 2, 1), (30, .iaload, 1), (31, .if_icmp .ne (7), 3), (34, .iconst 1, 1), (35, .goto (4), 3), (38, .iconst 0, 1), (39, .ireturn, 1), (40, .aload_n 0, 1), (41, .getfield 128, 3), (44, .iload_n 3, 1), (45, .iaload, 1), (46, .ifCond .ne (5), 3), (49, .iconst 0, 1), (50, .ireturn, 1), (51, .iload_n 1, 1), (52, .bipush (6), 2), (54, .if_icmp .ge (5), 3), (57, .iconst 1, 1), (58, .ireturn, 1), (59, .aload_n 0, 1), (60, .getfield 128, 3), (63, .iload 4, 2), (65, .iaload, 1), (66, .ifCond .ne (5), 3), (69, .iconst 0, 1), (70, .ireturn, 1), (71, .iload_n 1, 1), (72, .bipush (8), 2), (74, .if_icmp .ne (27), 3), (77, .aload_n 0, 1), (78, .getfield 131, 3), (81, .iload_n 3, 1), (82, .iaload, 1), (83, .aload_n 0, 1), (84, .getfield 128, 3), (87, .iload 4, 2), (89, .iaload, 1), (90, .if_icmp .ne (7), 3), (93, .iconst 1, 1), (94, .goto (44), 3), (97, .iconst 0, 1), (98, .goto (40), 3), (101, .aload_n 0, 1), (102, .getfield 128, 3), (105, .iload_n 3, 1), (106, .iaload, 1), (107, .aload_n 0, 1), (108, .getfield 128, 3), (111, .iload 4, 2), (113, .iaload, 1), (114, .if_icmp .ne (23), 3), (117, .aload_n 0, 1), (118, .getfield 131, 3), (121, .iload_n 3, 1), (122, .iaload, 1), (123, .aload_n 0, 1), (124, .getfield 131, 3), (127, .iload 4, 2), (129, .iaload, 1), (130, .if_icmp .ne (7), 3), (133, .iconst 1, 1), (134, .goto (4), 3), (137, .iconst 0, 1), (138, .ireturn, 1)]
theorem dd_Mo_matFits : (ld_Mo_matFits).all (dOK prog_14_method_71_code) = true := by decide +kernel
theorem d_Mo_matFits_0 : decode prog_14_method_71_code 0 = .ok (.iload_n 1, 1) := dd_at dd_Mo_matFits 0 rfl
theorem d_Mo_matFits_1 : decode prog_14_method_71_code 1 = .ok (.iconst 3, 1) := dd_at dd_Mo_matFits 1 rfl
theorem d_Mo_matFits_2 : decode prog_14_method_71_code 2 = .ok (.if_icmp .ge (38), 3) := dd_at dd_Mo_matFits 2 rfl
theorem d_Mo_matFits_5 : decode prog_14_method_71_code 5 = .ok (.aload_n 0, 1) := dd_at dd_Mo_matFits 3 rfl
theorem d_Mo_matFits_6 : decode prog_14_method_71_code 6 = .ok (.getfield 128, 3) := dd_at dd_Mo_matFits 4 rfl
theorem d_Mo_matFits_9 : decode prog_14_method_71_code 9 = .ok (.iload_n 2, 1) := dd_at dd_Mo_matFits 5 rfl
theorem d_Mo_matFits_10 : decode prog_14_method_71_code 10 = .ok (.iaload, 1) := dd_at dd_Mo_matFits 6 rfl
theorem d_Mo_matFits_11 : decode prog_14_method_71_code 11 = .ok (.ifCond .le (27), 3) := dd_at dd_Mo_matFits 7 rfl
theorem d_Mo_matFits_14 : decode prog_14_method_71_code 14 = .ok (.iload_n 1, 1) := dd_at dd_Mo_matFits 8 rfl
theorem d_Mo_matFits_15 : decode prog_14_method_71_code 15 = .ok (.iconst 2, 1) := dd_at dd_Mo_matFits 9 rfl
theorem d_Mo_matFits_16 : decode prog_14_method_71_code 16 = .ok (.if_icmp .lt (18), 3) := dd_at dd_Mo_matFits 10 rfl
theorem d_Mo_matFits_19 : decode prog_14_method_71_code 19 = .ok (.aload_n 0, 1) := dd_at dd_Mo_matFits 11 rfl
theorem d_Mo_matFits_20 : decode prog_14_method_71_code 20 = .ok (.getfield 128, 3) := dd_at dd_Mo_matFits 12 rfl
theorem d_Mo_matFits_23 : decode prog_14_method_71_code 23 = .ok (.iload_n 2, 1) := dd_at dd_Mo_matFits 13 rfl
theorem d_Mo_matFits_24 : decode prog_14_method_71_code 24 = .ok (.iaload, 1) := dd_at dd_Mo_matFits 14 rfl
theorem d_Mo_matFits_25 : decode prog_14_method_71_code 25 = .ok (.aload_n 0, 1) := dd_at dd_Mo_matFits 15 rfl
theorem d_Mo_matFits_26 : decode prog_14_method_71_code 26 = .ok (.getfield 131, 3) := dd_at dd_Mo_matFits 16 rfl
theorem d_Mo_matFits_29 : decode prog_14_method_71_code 29 = .ok (.iload_n 2, 1) := dd_at dd_Mo_matFits 17 rfl
theorem d_Mo_matFits_30 : decode prog_14_method_71_code 30 = .ok (.iaload, 1) := dd_at dd_Mo_matFits 18 rfl
theorem d_Mo_matFits_31 : decode prog_14_method_71_code 31 = .ok (.if_icmp .ne (7), 3) := dd_at dd_Mo_matFits 19 rfl
theorem d_Mo_matFits_34 : decode prog_14_method_71_code 34 = .ok (.iconst 1, 1) := dd_at dd_Mo_matFits 20 rfl
theorem d_Mo_matFits_35 : decode prog_14_method_71_code 35 = .ok (.goto (4), 3) := dd_at dd_Mo_matFits 21 rfl
theorem d_Mo_matFits_38 : decode prog_14_method_71_code 38 = .ok (.iconst 0, 1) := dd_at dd_Mo_matFits 22 rfl
theorem d_Mo_matFits_39 : decode prog_14_method_71_code 39 = .ok (.ireturn, 1) := dd_at dd_Mo_matFits 23 rfl
theorem d_Mo_matFits_40 : decode prog_14_method_71_code 40 = .ok (.aload_n 0, 1) := dd_at dd_Mo_matFits 24 rfl
theorem d_Mo_matFits_41 : decode prog_14_method_71_code 41 = .ok (.getfield 128, 3) := dd_at dd_Mo_matFits 25 rfl
theorem d_Mo_matFits_44 : decode prog_14_method_71_code 44 = .ok (.iload_n 3, 1) := dd_at dd_Mo_matFits 26 rfl
theorem d_Mo_matFits_45 : decode prog_14_method_71_code 45 = .ok (.iaload, 1) := dd_at dd_Mo_matFits 27 rfl
theorem d_Mo_matFits_46 : decode prog_14_method_71_code 46 = .ok (.ifCond .ne (5), 3) := dd_at dd_Mo_matFits 28 rfl
theorem d_Mo_matFits_49 : decode prog_14_method_71_code 49 = .ok (.iconst 0, 1) := dd_at dd_Mo_matFits 29 rfl
theorem d_Mo_matFits_50 : decode prog_14_method_71_code 50 = .ok (.ireturn, 1) := dd_at dd_Mo_matFits 30 rfl
theorem d_Mo_matFits_51 : decode prog_14_method_71_code 51 = .ok (.iload_n 1, 1) := dd_at dd_Mo_matFits 31 rfl
theorem d_Mo_matFits_52 : decode prog_14_method_71_code 52 = .ok (.bipush (6), 2) := dd_at dd_Mo_matFits 32 rfl
theorem d_Mo_matFits_54 : decode prog_14_method_71_code 54 = .ok (.if_icmp .ge (5), 3) := dd_at dd_Mo_matFits 33 rfl
theorem d_Mo_matFits_57 : decode prog_14_method_71_code 57 = .ok (.iconst 1, 1) := dd_at dd_Mo_matFits 34 rfl
theorem d_Mo_matFits_58 : decode prog_14_method_71_code 58 = .ok (.ireturn, 1) := dd_at dd_Mo_matFits 35 rfl
theorem d_Mo_matFits_59 : decode prog_14_method_71_code 59 = .ok (.aload_n 0, 1) := dd_at dd_Mo_matFits 36 rfl
theorem d_Mo_matFits_60 : decode prog_14_method_71_code 60 = .ok (.getfield 128, 3) := dd_at dd_Mo_matFits 37 rfl
theorem d_Mo_matFits_63 : decode prog_14_method_71_code 63 = .ok (.iload 4, 2) := dd_at dd_Mo_matFits 38 rfl
theorem d_Mo_matFits_65 : decode prog_14_method_71_code 65 = .ok (.iaload, 1) := dd_at dd_Mo_matFits 39 rfl
theorem d_Mo_matFits_66 : decode prog_14_method_71_code 66 = .ok (.ifCond .ne (5), 3) := dd_at dd_Mo_matFits 40 rfl
theorem d_Mo_matFits_69 : decode prog_14_method_71_code 69 = .ok (.iconst 0, 1) := dd_at dd_Mo_matFits 41 rfl
theorem d_Mo_matFits_70 : decode prog_14_method_71_code 70 = .ok (.ireturn, 1) := dd_at dd_Mo_matFits 42 rfl
theorem d_Mo_matFits_71 : decode prog_14_method_71_code 71 = .ok (.iload_n 1, 1) := dd_at dd_Mo_matFits 43 rfl
theorem d_Mo_matFits_72 : decode prog_14_method_71_code 72 = .ok (.bipush (8), 2) := dd_at dd_Mo_matFits 44 rfl
theorem d_Mo_matFits_74 : decode prog_14_method_71_code 74 = .ok (.if_icmp .ne (27), 3) := dd_at dd_Mo_matFits 45 rfl
theorem d_Mo_matFits_77 : decode prog_14_method_71_code 77 = .ok (.aload_n 0, 1) := dd_at dd_Mo_matFits 46 rfl
theorem d_Mo_matFits_78 : decode prog_14_method_71_code 78 = .ok (.getfield 131, 3) := dd_at dd_Mo_matFits 47 rfl
theorem d_Mo_matFits_81 : decode prog_14_method_71_code 81 = .ok (.iload_n 3, 1) := dd_at dd_Mo_matFits 48 rfl
theorem d_Mo_matFits_82 : decode prog_14_method_71_code 82 = .ok (.iaload, 1) := dd_at dd_Mo_matFits 49 rfl
theorem d_Mo_matFits_83 : decode prog_14_method_71_code 83 = .ok (.aload_n 0, 1) := dd_at dd_Mo_matFits 50 rfl
theorem d_Mo_matFits_84 : decode prog_14_method_71_code 84 = .ok (.getfield 128, 3) := dd_at dd_Mo_matFits 51 rfl
theorem d_Mo_matFits_87 : decode prog_14_method_71_code 87 = .ok (.iload 4, 2) := dd_at dd_Mo_matFits 52 rfl
theorem d_Mo_matFits_89 : decode prog_14_method_71_code 89 = .ok (.iaload, 1) := dd_at dd_Mo_matFits 53 rfl
theorem d_Mo_matFits_90 : decode prog_14_method_71_code 90 = .ok (.if_icmp .ne (7), 3) := dd_at dd_Mo_matFits 54 rfl
theorem d_Mo_matFits_93 : decode prog_14_method_71_code 93 = .ok (.iconst 1, 1) := dd_at dd_Mo_matFits 55 rfl
theorem d_Mo_matFits_94 : decode prog_14_method_71_code 94 = .ok (.goto (44), 3) := dd_at dd_Mo_matFits 56 rfl
theorem d_Mo_matFits_97 : decode prog_14_method_71_code 97 = .ok (.iconst 0, 1) := dd_at dd_Mo_matFits 57 rfl
theorem d_Mo_matFits_98 : decode prog_14_method_71_code 98 = .ok (.goto (40), 3) := dd_at dd_Mo_matFits 58 rfl
theorem d_Mo_matFits_101 : decode prog_14_method_71_code 101 = .ok (.aload_n 0, 1) := dd_at dd_Mo_matFits 59 rfl
theorem d_Mo_matFits_102 : decode prog_14_method_71_code 102 = .ok (.getfield 128, 3) := dd_at dd_Mo_matFits 60 rfl
theorem d_Mo_matFits_105 : decode prog_14_method_71_code 105 = .ok (.iload_n 3, 1) := dd_at dd_Mo_matFits 61 rfl
theorem d_Mo_matFits_106 : decode prog_14_method_71_code 106 = .ok (.iaload, 1) := dd_at dd_Mo_matFits 62 rfl
theorem d_Mo_matFits_107 : decode prog_14_method_71_code 107 = .ok (.aload_n 0, 1) := dd_at dd_Mo_matFits 63 rfl
theorem d_Mo_matFits_108 : decode prog_14_method_71_code 108 = .ok (.getfield 128, 3) := dd_at dd_Mo_matFits 64 rfl
theorem d_Mo_matFits_111 : decode prog_14_method_71_code 111 = .ok (.iload 4, 2) := dd_at dd_Mo_matFits 65 rfl
theorem d_Mo_matFits_113 : decode prog_14_method_71_code 113 = .ok (.iaload, 1) := dd_at dd_Mo_matFits 66 rfl
theorem d_Mo_matFits_114 : decode prog_14_method_71_code 114 = .ok (.if_icmp .ne (23), 3) := dd_at dd_Mo_matFits 67 rfl
theorem d_Mo_matFits_117 : decode prog_14_method_71_code 117 = .ok (.aload_n 0, 1) := dd_at dd_Mo_matFits 68 rfl
theorem d_Mo_matFits_118 : decode prog_14_method_71_code 118 = .ok (.getfield 131, 3) := dd_at dd_Mo_matFits 69 rfl
theorem d_Mo_matFits_121 : decode prog_14_method_71_code 121 = .ok (.iload_n 3, 1) := dd_at dd_Mo_matFits 70 rfl
theorem d_Mo_matFits_122 : decode prog_14_method_71_code 122 = .ok (.iaload, 1) := dd_at dd_Mo_matFits 71 rfl
theorem d_Mo_matFits_123 : decode prog_14_method_71_code 123 = .ok (.aload_n 0, 1) := dd_at dd_Mo_matFits 72 rfl
theorem d_Mo_matFits_124 : decode prog_14_method_71_code 124 = .ok (.getfield 131, 3) := dd_at dd_Mo_matFits 73 rfl
theorem d_Mo_matFits_127 : decode prog_14_method_71_code 127 = .ok (.iload 4, 2) := dd_at dd_Mo_matFits 74 rfl
theorem d_Mo_matFits_129 : decode prog_14_method_71_code 129 = .ok (.iaload, 1) := dd_at dd_Mo_matFits 75 rfl
theorem d_Mo_matFits_130 : decode prog_14_method_71_code 130 = .ok (.if_icmp .ne (7), 3) := dd_at dd_Mo_matFits 76 rfl
theorem d_Mo_matFits_133 : decode prog_14_method_71_code 133 = .ok (.iconst 1, 1) := dd_at dd_Mo_matFits 77 rfl
theorem d_Mo_matFits_134 : decode prog_14_method_71_code 134 = .ok (.goto (4), 3) := dd_at dd_Mo_matFits 78 rfl
theorem d_Mo_matFits_137 : decode prog_14_method_71_code 137 = .ok (.iconst 0, 1) := dd_at dd_Mo_matFits 79 rfl
theorem d_Mo_matFits_138 : decode prog_14_method_71_code 138 = .ok (.ireturn, 1) := dd_at dd_Mo_matFits 80 rfl
def ld_Mo_doMat : List (Nat × Instr × Nat) := [(0, .aload_n 0, 1), (1, .getfield 49, 3), (4, .iload_n 1, 1), (5, .bipush (8), 2), (7, .imul, 1), (8, .iaload, 1), (9, .istore_n 2, 1), (10, .aload_n 0, 1), (11, .getfield 49, 3), (14, .iload_n 1, 1), (15, .bipush (8), 2), (17, .imul, 1), (18, .iconst 1, 1), (19, .iadd, 1), (20, .iaload, 1), (21, .istore_n 3, 1), (22, .iload_n 3, 1), (23, .iconst 3, 1), (24, .if_icmp .ge (7), 3), (27, .iload_n 2, 1), (28, .goto (14), 3), (31, .aload_n 0, 1), (32, .getfield 49, 3), (35, .iload_n 1, 1), (36, .bipush (8), 2), (38, .imul, 1), (39, .iconst 2, 1), (40, .iadd, 1), (41, .iaload, 1), (42, .istore 4, 2), (44, .iload_n 3, 1), (45, .iconst 5, 1), (46, .if_icmp .le (17), 3), (49, .aload_n 0, 1), (50, .getfield 49, 3), (53, .iload_n 1, 1), (54, .bipush (8), 2), (56, .imul, 1), (57, .iconst 3, 1), (58, .iadd, 1), (59, .iaload, 1), (60, .goto (5), 3), (63, .iload 4, 2), (65, .istore 5, 2), (67, .aload_n 0, 1), (68, .iload_n 3, 1), (69, .iload_n 2, 1), (70, .iload 4, 2), (72, .iload 5, 2), (74, .invokevirtual 405, 3), (77, .ifCond .ne (10), 3), (80, .aload_n 0, 1), (81, .bipush (6), 2), (83, .putfield 94, 3), (86, .return_, 1), (87, .iload_n 3, 1), (88, .iconst 4, 1), (89, .if_icmp .ne (18), 3), (92, .aload_n 0, 1), (93, .aload_n 0, 1), (94, .getfield 52, 3), (97, .iload_n 1, 1), (98, .iconst 4, 1), (99, .imul, 1), (100, .iaload, 1), (101, .invokevirtual 392, 3), (104, .goto (4), 3), (107, .dconst 1, 1), (108, .dstore 6, 2), (110, .iload_n 3, 1), (111, .iconst 3, 1), (112, .if_icmp .ne (13), 3), (115, .aload_n 0, 1), (116, .getfield 131, 3), (119, .iload 4, 2), (121, .iaload, 1), (122, .goto (10), 3), (125, .aload_n 0, 1), (126, .getfield 128, 3), (129, .iload 4, 2), (131, .iaload, 1), (132, .istore 8, 2), (134, .iload_n 3, 1), (135, .iconst 3, 1), (136, .if_icmp .ne (13), 3), (139, .aload_n 0, 1), (140, .getfield 128, 3), (143, .iload 4, 2), (145, .iaload, 1), (146, .goto (10), 3), (149, .aload_n 0, 1), (150, .getfield 131, 3), (153, .iload 5, 2), (155, .iaload, 1), (156, .istore 9, 2), (158, .iconst 0, 1), (159, .istore 10, 2), (161, .iload 10, 2), (163, .iload 8, 2), (165, .if_icmp .ge (60), 3), (168, .iconst 0, 1), (169, .istore 11, 2), (171, .iload 11, 2), (173, .iload 9, 2), (175, .if_icmp .ge (44), 3), (178, .aload_n 0, 1), (179, .getfield 94, 3), (182, .ifCond .ne (37), 3), (185, .aload_n 0, 1), (186, .getfield 122, 3), (189, .iload 10, 2), (191, .bipush (6), 2), (193, .imul, 1), (194, .iload 11, 2), (196, .iadd, 1), (197, .aload_n 0, 1), (198, .iload_n 3, 1), (199, .iload 4, 2), (201, .iload 5, 2), (203, .iload 10, 2), (205, .iload 11, 2), (207, .dload 6, 2), (209, .invokevirtual 409, 3), (212, .dastore, 1), (213, .iinc 11 (1), 3), (216, .goto (-45), 3), (219, .iinc 10 (1), 3), (222, .goto (-61), 3), (225, .aload_n 0, 1), (226, .getfield 94, 3), (229, .ifCond .eq (4), 3), (232, .return_, 1), (233, .aload_n 0, 1), (234, .getfield 128, 3), (237, .iload_n 2, 1), (238, .iload 8, 2), (240, .iastore, 1), (241, .aload_n 0, 1), (242, .getfield 131, 3), (245, .iload_n 2, 1), (246, .iload 9, 2), (248, .iastore, 1), (249, .iconst 0, 1), (250, .istore 10, 2), (252, .iload 10, 2), (254, .bipush (36), 2), (256, .if_icmp .ge (28), 3), (259, .aload_n 0, 1), (260, .getfield 119, 3), (263, .iload_n 2, 1), (264, .bipush (36), 2), (266, .imul, 1), (267, .iload 10, 2), (269, .iadd, 1), (270, .aload_n 0, 1), (271, .getfield 122, 3), (274, .iload 10, 2), (276, .daload, 1), (277, .dastore, 1), (278, .iinc 10 (1), 3), (281, .goto (-29), 3), (284, .return_, 1)]
theorem dd_Mo_doMat : (ld_Mo_doMat).all (dOK prog_14_method_72_code) = true := by decide +kernel
theorem d_Mo_doMat_0 : decode prog_14_method_72_code 0 = .ok (.aload_n 0, 1) := dd_at dd_Mo_doMat 0 rfl
theorem d_Mo_doMat_1 : decode prog_14_method_72_code 1 = .ok (.getfield 49, 3) := dd_at dd_Mo_doMat 1 rfl
theorem d_Mo_doMat_4 : decode prog_14_method_72_code 4 = .ok (.iload_n 1, 1) := dd_at dd_Mo_doMat 2 rfl
theorem d_Mo_doMat_5 : decode prog_14_method_72_code 5 = .ok (.bipush (8), 2) := dd_at dd_Mo_doMat 3 rfl
theorem d_Mo_doMat_7 : decode prog_14_method_72_code 7 = .ok (.imul, 1) := dd_at dd_Mo_doMat 4 rfl
theorem d_Mo_doMat_8 : decode prog_14_method_72_code 8 = .ok (.iaload, 1) := dd_at dd_Mo_doMat 5 rfl
theorem d_Mo_doMat_9 : decode prog_14_method_72_code 9 = .ok (.istore_n 2, 1) := dd_at dd_Mo_doMat 6 rfl
theorem d_Mo_doMat_10 : decode prog_14_method_72_code 10 = .ok (.aload_n 0, 1) := dd_at dd_Mo_doMat 7 rfl
theorem d_Mo_doMat_11 : decode prog_14_method_72_code 11 = .ok (.getfield 49, 3) := dd_at dd_Mo_doMat 8 rfl
theorem d_Mo_doMat_14 : decode prog_14_method_72_code 14 = .ok (.iload_n 1, 1) := dd_at dd_Mo_doMat 9 rfl
theorem d_Mo_doMat_15 : decode prog_14_method_72_code 15 = .ok (.bipush (8), 2) := dd_at dd_Mo_doMat 10 rfl
theorem d_Mo_doMat_17 : decode prog_14_method_72_code 17 = .ok (.imul, 1) := dd_at dd_Mo_doMat 11 rfl
theorem d_Mo_doMat_18 : decode prog_14_method_72_code 18 = .ok (.iconst 1, 1) := dd_at dd_Mo_doMat 12 rfl
theorem d_Mo_doMat_19 : decode prog_14_method_72_code 19 = .ok (.iadd, 1) := dd_at dd_Mo_doMat 13 rfl
theorem d_Mo_doMat_20 : decode prog_14_method_72_code 20 = .ok (.iaload, 1) := dd_at dd_Mo_doMat 14 rfl
theorem d_Mo_doMat_21 : decode prog_14_method_72_code 21 = .ok (.istore_n 3, 1) := dd_at dd_Mo_doMat 15 rfl
theorem d_Mo_doMat_22 : decode prog_14_method_72_code 22 = .ok (.iload_n 3, 1) := dd_at dd_Mo_doMat 16 rfl
theorem d_Mo_doMat_23 : decode prog_14_method_72_code 23 = .ok (.iconst 3, 1) := dd_at dd_Mo_doMat 17 rfl
theorem d_Mo_doMat_24 : decode prog_14_method_72_code 24 = .ok (.if_icmp .ge (7), 3) := dd_at dd_Mo_doMat 18 rfl
theorem d_Mo_doMat_27 : decode prog_14_method_72_code 27 = .ok (.iload_n 2, 1) := dd_at dd_Mo_doMat 19 rfl
theorem d_Mo_doMat_28 : decode prog_14_method_72_code 28 = .ok (.goto (14), 3) := dd_at dd_Mo_doMat 20 rfl
theorem d_Mo_doMat_31 : decode prog_14_method_72_code 31 = .ok (.aload_n 0, 1) := dd_at dd_Mo_doMat 21 rfl
theorem d_Mo_doMat_32 : decode prog_14_method_72_code 32 = .ok (.getfield 49, 3) := dd_at dd_Mo_doMat 22 rfl
theorem d_Mo_doMat_35 : decode prog_14_method_72_code 35 = .ok (.iload_n 1, 1) := dd_at dd_Mo_doMat 23 rfl
theorem d_Mo_doMat_36 : decode prog_14_method_72_code 36 = .ok (.bipush (8), 2) := dd_at dd_Mo_doMat 24 rfl
theorem d_Mo_doMat_38 : decode prog_14_method_72_code 38 = .ok (.imul, 1) := dd_at dd_Mo_doMat 25 rfl
theorem d_Mo_doMat_39 : decode prog_14_method_72_code 39 = .ok (.iconst 2, 1) := dd_at dd_Mo_doMat 26 rfl
theorem d_Mo_doMat_40 : decode prog_14_method_72_code 40 = .ok (.iadd, 1) := dd_at dd_Mo_doMat 27 rfl
theorem d_Mo_doMat_41 : decode prog_14_method_72_code 41 = .ok (.iaload, 1) := dd_at dd_Mo_doMat 28 rfl
theorem d_Mo_doMat_42 : decode prog_14_method_72_code 42 = .ok (.istore 4, 2) := dd_at dd_Mo_doMat 29 rfl
theorem d_Mo_doMat_44 : decode prog_14_method_72_code 44 = .ok (.iload_n 3, 1) := dd_at dd_Mo_doMat 30 rfl
theorem d_Mo_doMat_45 : decode prog_14_method_72_code 45 = .ok (.iconst 5, 1) := dd_at dd_Mo_doMat 31 rfl
theorem d_Mo_doMat_46 : decode prog_14_method_72_code 46 = .ok (.if_icmp .le (17), 3) := dd_at dd_Mo_doMat 32 rfl
theorem d_Mo_doMat_49 : decode prog_14_method_72_code 49 = .ok (.aload_n 0, 1) := dd_at dd_Mo_doMat 33 rfl
theorem d_Mo_doMat_50 : decode prog_14_method_72_code 50 = .ok (.getfield 49, 3) := dd_at dd_Mo_doMat 34 rfl
theorem d_Mo_doMat_53 : decode prog_14_method_72_code 53 = .ok (.iload_n 1, 1) := dd_at dd_Mo_doMat 35 rfl
theorem d_Mo_doMat_54 : decode prog_14_method_72_code 54 = .ok (.bipush (8), 2) := dd_at dd_Mo_doMat 36 rfl
theorem d_Mo_doMat_56 : decode prog_14_method_72_code 56 = .ok (.imul, 1) := dd_at dd_Mo_doMat 37 rfl
theorem d_Mo_doMat_57 : decode prog_14_method_72_code 57 = .ok (.iconst 3, 1) := dd_at dd_Mo_doMat 38 rfl
theorem d_Mo_doMat_58 : decode prog_14_method_72_code 58 = .ok (.iadd, 1) := dd_at dd_Mo_doMat 39 rfl
theorem d_Mo_doMat_59 : decode prog_14_method_72_code 59 = .ok (.iaload, 1) := dd_at dd_Mo_doMat 40 rfl
theorem d_Mo_doMat_60 : decode prog_14_method_72_code 60 = .ok (.goto (5), 3) := dd_at dd_Mo_doMat 41 rfl
theorem d_Mo_doMat_63 : decode prog_14_method_72_code 63 = .ok (.iload 4, 2) := dd_at dd_Mo_doMat 42 rfl
theorem d_Mo_doMat_65 : decode prog_14_method_72_code 65 = .ok (.istore 5, 2) := dd_at dd_Mo_doMat 43 rfl
theorem d_Mo_doMat_67 : decode prog_14_method_72_code 67 = .ok (.aload_n 0, 1) := dd_at dd_Mo_doMat 44 rfl
theorem d_Mo_doMat_68 : decode prog_14_method_72_code 68 = .ok (.iload_n 3, 1) := dd_at dd_Mo_doMat 45 rfl
theorem d_Mo_doMat_69 : decode prog_14_method_72_code 69 = .ok (.iload_n 2, 1) := dd_at dd_Mo_doMat 46 rfl
theorem d_Mo_doMat_70 : decode prog_14_method_72_code 70 = .ok (.iload 4, 2) := dd_at dd_Mo_doMat 47 rfl
theorem d_Mo_doMat_72 : decode prog_14_method_72_code 72 = .ok (.iload 5, 2) := dd_at dd_Mo_doMat 48 rfl
theorem d_Mo_doMat_74 : decode prog_14_method_72_code 74 = .ok (.invokevirtual 405, 3) := dd_at dd_Mo_doMat 49 rfl
theorem d_Mo_doMat_77 : decode prog_14_method_72_code 77 = .ok (.ifCond .ne (10), 3) := dd_at dd_Mo_doMat 50 rfl
theorem d_Mo_doMat_80 : decode prog_14_method_72_code 80 = .ok (.aload_n 0, 1) := dd_at dd_Mo_doMat 51 rfl
theorem d_Mo_doMat_81 : decode prog_14_method_72_code 81 = .ok (.bipush (6), 2) := dd_at dd_Mo_doMat 52 rfl
theorem d_Mo_doMat_83 : decode prog_14_method_72_code 83 = .ok (.putfield 94, 3) := dd_at dd_Mo_doMat 53 rfl
theorem d_Mo_doMat_86 : decode prog_14_method_72_code 86 = .ok (.return_, 1) := dd_at dd_Mo_doMat 54 rfl
theorem d_Mo_doMat_87 : decode prog_14_method_72_code 87 = .ok (.iload_n 3, 1) := dd_at dd_Mo_doMat 55 rfl
theorem d_Mo_doMat_88 : decode prog_14_method_72_code 88 = .ok (.iconst 4, 1) := dd_at dd_Mo_doMat 56 rfl
theorem d_Mo_doMat_89 : decode prog_14_method_72_code 89 = .ok (.if_icmp .ne (18), 3) := dd_at dd_Mo_doMat 57 rfl
theorem d_Mo_doMat_92 : decode prog_14_method_72_code 92 = .ok (.aload_n 0, 1) := dd_at dd_Mo_doMat 58 rfl
theorem d_Mo_doMat_93 : decode prog_14_method_72_code 93 = .ok (.aload_n 0, 1) := dd_at dd_Mo_doMat 59 rfl
theorem d_Mo_doMat_94 : decode prog_14_method_72_code 94 = .ok (.getfield 52, 3) := dd_at dd_Mo_doMat 60 rfl
theorem d_Mo_doMat_97 : decode prog_14_method_72_code 97 = .ok (.iload_n 1, 1) := dd_at dd_Mo_doMat 61 rfl
theorem d_Mo_doMat_98 : decode prog_14_method_72_code 98 = .ok (.iconst 4, 1) := dd_at dd_Mo_doMat 62 rfl
theorem d_Mo_doMat_99 : decode prog_14_method_72_code 99 = .ok (.imul, 1) := dd_at dd_Mo_doMat 63 rfl
theorem d_Mo_doMat_100 : decode prog_14_method_72_code 100 = .ok (.iaload, 1) := dd_at dd_Mo_doMat 64 rfl
theorem d_Mo_doMat_101 : decode prog_14_method_72_code 101 = .ok (.invokevirtual 392, 3) := dd_at dd_Mo_doMat 65 rfl
theorem d_Mo_doMat_104 : decode prog_14_method_72_code 104 = .ok (.goto (4), 3) := dd_at dd_Mo_doMat 66 rfl
theorem d_Mo_doMat_107 : decode prog_14_method_72_code 107 = .ok (.dconst 1, 1) := dd_at dd_Mo_doMat 67 rfl
theorem d_Mo_doMat_108 : decode prog_14_method_72_code 108 = .ok (.dstore 6, 2) := dd_at dd_Mo_doMat 68 rfl
theorem d_Mo_doMat_110 : decode prog_14_method_72_code 110 = .ok (.iload_n 3, 1) := dd_at dd_Mo_doMat 69 rfl
theorem d_Mo_doMat_111 : decode prog_14_method_72_code 111 = .ok (.iconst 3, 1) := dd_at dd_Mo_doMat 70 rfl
theorem d_Mo_doMat_112 : decode prog_14_method_72_code 112 = .ok (.if_icmp .ne (13), 3) := dd_at dd_Mo_doMat 71 rfl
theorem d_Mo_doMat_115 : decode prog_14_method_72_code 115 = .ok (.aload_n 0, 1) := dd_at dd_Mo_doMat 72 rfl
theorem d_Mo_doMat_116 : decode prog_14_method_72_code 116 = .ok (.getfield 131, 3) := dd_at dd_Mo_doMat 73 rfl
theorem d_Mo_doMat_119 : decode prog_14_method_72_code 119 = .ok (.iload 4, 2) := dd_at dd_Mo_doMat 74 rfl
theorem d_Mo_doMat_121 : decode prog_14_method_72_code 121 = .ok (.iaload, 1) := dd_at dd_Mo_doMat 75 rfl
theorem d_Mo_doMat_122 : decode prog_14_method_72_code 122 = .ok (.goto (10), 3) := dd_at dd_Mo_doMat 76 rfl
theorem d_Mo_doMat_125 : decode prog_14_method_72_code 125 = .ok (.aload_n 0, 1) := dd_at dd_Mo_doMat 77 rfl
theorem d_Mo_doMat_126 : decode prog_14_method_72_code 126 = .ok (.getfield 128, 3) := dd_at dd_Mo_doMat 78 rfl
theorem d_Mo_doMat_129 : decode prog_14_method_72_code 129 = .ok (.iload 4, 2) := dd_at dd_Mo_doMat 79 rfl
theorem d_Mo_doMat_131 : decode prog_14_method_72_code 131 = .ok (.iaload, 1) := dd_at dd_Mo_doMat 80 rfl
theorem d_Mo_doMat_132 : decode prog_14_method_72_code 132 = .ok (.istore 8, 2) := dd_at dd_Mo_doMat 81 rfl
theorem d_Mo_doMat_134 : decode prog_14_method_72_code 134 = .ok (.iload_n 3, 1) := dd_at dd_Mo_doMat 82 rfl
theorem d_Mo_doMat_135 : decode prog_14_method_72_code 135 = .ok (.iconst 3, 1) := dd_at dd_Mo_doMat 83 rfl
theorem d_Mo_doMat_136 : decode prog_14_method_72_code 136 = .ok (.if_icmp .ne (13), 3) := dd_at dd_Mo_doMat 84 rfl
theorem d_Mo_doMat_139 : decode prog_14_method_72_code 139 = .ok (.aload_n 0, 1) := dd_at dd_Mo_doMat 85 rfl
theorem d_Mo_doMat_140 : decode prog_14_method_72_code 140 = .ok (.getfield 128, 3) := dd_at dd_Mo_doMat 86 rfl
theorem d_Mo_doMat_143 : decode prog_14_method_72_code 143 = .ok (.iload 4, 2) := dd_at dd_Mo_doMat 87 rfl
theorem d_Mo_doMat_145 : decode prog_14_method_72_code 145 = .ok (.iaload, 1) := dd_at dd_Mo_doMat 88 rfl
theorem d_Mo_doMat_146 : decode prog_14_method_72_code 146 = .ok (.goto (10), 3) := dd_at dd_Mo_doMat 89 rfl
theorem d_Mo_doMat_149 : decode prog_14_method_72_code 149 = .ok (.aload_n 0, 1) := dd_at dd_Mo_doMat 90 rfl
theorem d_Mo_doMat_150 : decode prog_14_method_72_code 150 = .ok (.getfield 131, 3) := dd_at dd_Mo_doMat 91 rfl
theorem d_Mo_doMat_153 : decode prog_14_method_72_code 153 = .ok (.iload 5, 2) := dd_at dd_Mo_doMat 92 rfl
theorem d_Mo_doMat_155 : decode prog_14_method_72_code 155 = .ok (.iaload, 1) := dd_at dd_Mo_doMat 93 rfl
theorem d_Mo_doMat_156 : decode prog_14_method_72_code 156 = .ok (.istore 9, 2) := dd_at dd_Mo_doMat 94 rfl
theorem d_Mo_doMat_158 : decode prog_14_method_72_code 158 = .ok (.iconst 0, 1) := dd_at dd_Mo_doMat 95 rfl
theorem d_Mo_doMat_159 : decode prog_14_method_72_code 159 = .ok (.istore 10, 2) := dd_at dd_Mo_doMat 96 rfl
theorem d_Mo_doMat_161 : decode prog_14_method_72_code 161 = .ok (.iload 10, 2) := dd_at dd_Mo_doMat 97 rfl
theorem d_Mo_doMat_163 : decode prog_14_method_72_code 163 = .ok (.iload 8, 2) := dd_at dd_Mo_doMat 98 rfl
theorem d_Mo_doMat_165 : decode prog_14_method_72_code 165 = .ok (.if_icmp .ge (60), 3) := dd_at dd_Mo_doMat 99 rfl
theorem d_Mo_doMat_168 : decode prog_14_method_72_code 168 = .ok (.iconst 0, 1) := dd_at dd_Mo_doMat 100 rfl
theorem d_Mo_doMat_169 : decode prog_14_method_72_code 169 = .ok (.istore 11, 2) := dd_at dd_Mo_doMat 101 rfl
theorem d_Mo_doMat_171 : decode prog_14_method_72_code 171 = .ok (.iload 11, 2) := dd_at dd_Mo_doMat 102 rfl
theorem d_Mo_doMat_173 : decode prog_14_method_72_code 173 = .ok (.iload 9, 2) := dd_at dd_Mo_doMat 103 rfl
theorem d_Mo_doMat_175 : decode prog_14_method_72_code 175 = .ok (.if_icmp .ge (44), 3) := dd_at dd_Mo_doMat 104 rfl
theorem d_Mo_doMat_178 : decode prog_14_method_72_code 178 = .ok (.aload_n 0, 1) := dd_at dd_Mo_doMat 105 rfl
theorem d_Mo_doMat_179 : decode prog_14_method_72_code 179 = .ok (.getfield 94, 3) := dd_at dd_Mo_doMat 106 rfl
theorem d_Mo_doMat_182 : decode prog_14_method_72_code 182 = .ok (.ifCond .ne (37), 3) := dd_at dd_Mo_doMat 107 rfl
theorem d_Mo_doMat_185 : decode prog_14_method_72_code 185 = .ok (.aload_n 0, 1) := dd_at dd_Mo_doMat 108 rfl
theorem d_Mo_doMat_186 : decode prog_14_method_72_code 186 = .ok (.getfield 122, 3) := dd_at dd_Mo_doMat 109 rfl
theorem d_Mo_doMat_189 : decode prog_14_method_72_code 189 = .ok (.iload 10, 2) := dd_at dd_Mo_doMat 110 rfl
theorem d_Mo_doMat_191 : decode prog_14_method_72_code 191 = .ok (.bipush (6), 2) := dd_at dd_Mo_doMat 111 rfl
theorem d_Mo_doMat_193 : decode prog_14_method_72_code 193 = .ok (.imul, 1) := dd_at dd_Mo_doMat 112 rfl
theorem d_Mo_doMat_194 : decode prog_14_method_72_code 194 = .ok (.iload 11, 2) := dd_at dd_Mo_doMat 113 rfl
theorem d_Mo_doMat_196 : decode prog_14_method_72_code 196 = .ok (.iadd, 1) := dd_at dd_Mo_doMat 114 rfl
theorem d_Mo_doMat_197 : decode prog_14_method_72_code 197 = .ok (.aload_n 0, 1) := dd_at dd_Mo_doMat 115 rfl
theorem d_Mo_doMat_198 : decode prog_14_method_72_code 198 = .ok (.iload_n 3, 1) := dd_at dd_Mo_doMat 116 rfl
theorem d_Mo_doMat_199 : decode prog_14_method_72_code 199 = .ok (.iload 4, 2) := dd_at dd_Mo_doMat 117 rfl
theorem d_Mo_doMat_201 : decode prog_14_method_72_code 201 = .ok (.iload 5, 2) := dd_at dd_Mo_doMat 118 rfl
theorem d_Mo_doMat_203 : decode prog_14_method_72_code 203 = .ok (.iload 10, 2) := dd_at dd_Mo_doMat 119 rfl
theorem d_Mo_doMat_205 : decode prog_14_method_72_code 205 = .ok (.iload 11, 2) := dd_at dd_Mo_doMat 120 rfl
theorem d_Mo_doMat_207 : decode prog_14_method_72_code 207 = .ok (.dload 6, 2) := dd_at dd_Mo_doMat 121 rfl
theorem d_Mo_doMat_209 : decode prog_14_method_72_code 209 = .ok (.invokevirtual 409, 3) := dd_at dd_Mo_doMat 122 rfl
theorem d_Mo_doMat_212 : decode prog_14_method_72_code 212 = .ok (.dastore, 1) := dd_at dd_Mo_doMat 123 rfl
theorem d_Mo_doMat_213 : decode prog_14_method_72_code 213 = .ok (.iinc 11 (1), 3) := dd_at dd_Mo_doMat 124 rfl
theorem d_Mo_doMat_216 : decode prog_14_method_72_code 216 = .ok (.goto (-45), 3) := dd_at dd_Mo_doMat 125 rfl
theorem d_Mo_doMat_219 : decode prog_14_method_72_code 219 = .ok (.iinc 10 (1), 3) := dd_at dd_Mo_doMat 126 rfl
theorem d_Mo_doMat_222 : decode prog_14_method_72_code 222 = .ok (.goto (-61), 3) := dd_at dd_Mo_doMat 127 rfl
theorem d_Mo_doMat_225 : decode prog_14_method_72_code 225 = .ok (.aload_n 0, 1) := dd_at dd_Mo_doMat 128 rfl
theorem d_Mo_doMat_226 : decode prog_14_method_72_code 226 = .ok (.getfield 94, 3) := dd_at dd_Mo_doMat 129 rfl
theorem d_Mo_doMat_229 : decode prog_14_method_72_code 229 = .ok (.ifCond .eq (4), 3) := dd_at dd_Mo_doMat 130 rfl
theorem d_Mo_doMat_232 : decode prog_14_method_72_code 232 = .ok (.return_, 1) := dd_at dd_Mo_doMat 131 rfl
theorem d_Mo_doMat_233 : decode prog_14_method_72_code 233 = .ok (.aload_n 0, 1) := dd_at dd_Mo_doMat 132 rfl
theorem d_Mo_doMat_234 : decode prog_14_method_72_code 234 = .ok (.getfield 128, 3) := dd_at dd_Mo_doMat 133 rfl
theorem d_Mo_doMat_237 : decode prog_14_method_72_code 237 = .ok (.iload_n 2, 1) := dd_at dd_Mo_doMat 134 rfl
theorem d_Mo_doMat_238 : decode prog_14_method_72_code 238 = .ok (.iload 8, 2) := dd_at dd_Mo_doMat 135 rfl
theorem d_Mo_doMat_240 : decode prog_14_method_72_code 240 = .ok (.iastore, 1) := dd_at dd_Mo_doMat 136 rfl
theorem d_Mo_doMat_241 : decode prog_14_method_72_code 241 = .ok (.aload_n 0, 1) := dd_at dd_Mo_doMat 137 rfl
theorem d_Mo_doMat_242 : decode prog_14_method_72_code 242 = .ok (.getfield 131, 3) := dd_at dd_Mo_doMat 138 rfl
theorem d_Mo_doMat_245 : decode prog_14_method_72_code 245 = .ok (.iload_n 2, 1) := dd_at dd_Mo_doMat 139 rfl
theorem d_Mo_doMat_246 : decode prog_14_method_72_code 246 = .ok (.iload 9, 2) := dd_at dd_Mo_doMat 140 rfl
theorem d_Mo_doMat_248 : decode prog_14_method_72_code 248 = .ok (.iastore, 1) := dd_at dd_Mo_doMat 141 rfl
theorem d_Mo_doMat_249 : decode prog_14_method_72_code 249 = .ok (.iconst 0, 1) := dd_at dd_Mo_doMat 142 rfl
theorem d_Mo_doMat_250 : decode prog_14_method_72_code 250 = .ok (.istore 10, 2) := dd_at dd_Mo_doMat 143 rfl
theorem d_Mo_doMat_252 : decode prog_14_method_72_code 252 = .ok (.iload 10, 2) := dd_at dd_Mo_doMat 144 rfl
theorem d_Mo_doMat_254 : decode prog_14_method_72_code 254 = .ok (.bipush (36), 2) := dd_at dd_Mo_doMat 145 rfl
theorem d_Mo_doMat_256 : decode prog_14_method_72_code 256 = .ok (.if_icmp .ge (28), 3) := dd_at dd_Mo_doMat 146 rfl
theorem d_Mo_doMat_259 : decode prog_14_method_72_code 259 = .ok (.aload_n 0, 1) := dd_at dd_Mo_doMat 147 rfl
theorem d_Mo_doMat_260 : decode prog_14_method_72_code 260 = .ok (.getfield 119, 3) := dd_at dd_Mo_doMat 148 rfl
theorem d_Mo_doMat_263 : decode prog_14_method_72_code 263 = .ok (.iload_n 2, 1) := dd_at dd_Mo_doMat 149 rfl
theorem d_Mo_doMat_264 : decode prog_14_method_72_code 264 = .ok (.bipush (36), 2) := dd_at dd_Mo_doMat 150 rfl
theorem d_Mo_doMat_266 : decode prog_14_method_72_code 266 = .ok (.imul, 1) := dd_at dd_Mo_doMat 151 rfl
theorem d_Mo_doMat_267 : decode prog_14_method_72_code 267 = .ok (.iload 10, 2) := dd_at dd_Mo_doMat 152 rfl
theorem d_Mo_doMat_269 : decode prog_14_method_72_code 269 = .ok (.iadd, 1) := dd_at dd_Mo_doMat 153 rfl
theorem d_Mo_doMat_270 : decode prog_14_method_72_code 270 = .ok (.aload_n 0, 1) := dd_at dd_Mo_doMat 154 rfl
theorem d_Mo_doMat_271 : decode prog_14_method_72_code 271 = .ok (.getfield 122, 3) := dd_at dd_Mo_doMat 155 rfl
theorem d_Mo_doMat_274 : decode prog_14_method_72_code 274 = .ok (.iload 10, 2) := dd_at dd_Mo_doMat 156 rfl
theorem d_Mo_doMat_276 : decode prog_14_method_72_code 276 = .ok (.daload, 1) := dd_at dd_Mo_doMat 157 rfl
theorem d_Mo_doMat_277 : decode prog_14_method_72_code 277 = .ok (.dastore, 1) := dd_at dd_Mo_doMat 158 rfl
theorem d_Mo_doMat_278 : decode prog_14_method_72_code 278 = .ok (.iinc 10 (1), 3) := dd_at dd_Mo_doMat 159 rfl
theorem d_Mo_doMat_281 : decode prog_14_method_72_code 281 = .ok (.goto (-29), 3) := dd_at dd_Mo_doMat 160 rfl
theorem d_Mo_doMat_284 : decode prog_14_method_72_code 284 = .ok (.return_, 1) := dd_at dd_Mo_doMat 161 rfl
def ld_Mo_dimension : List (Nat × Instr × Nat) := [(0, .aload_n 0, 1), (1, .getfield 128, 3), (4, .iload_n 1, 1), (5, .iload_n 2, 1), (6, .iastore, 1), (7, .aload_n 0, 1), (8, .getfield 131, 3), (11, .iload_n 1, 1), (12, .iload_n 3, 1), (13, .iastore, 1), (14, .iload_n 1, 1), (15, .bipush (36), 2), (17, .imul, 1), (18, .istore 4, 2), (20, .iload 4, 2), (22, .iload_n 1, 1), (23, .bipush (36), 2), (25, .imul, 1), (26, .bipush (36), 2), (28, .iadd, 1), (29, .if_icmp .ge (17), 3), (32, .aload_n 0, 1), (33, .getfield 119, 3), (36, .iload 4, 2), (38, .dconst 0, 1), (39, .dastore, 1), (40, .iinc 4 (1), 3), (43, .goto (-23), 3), (46, .return_, 1)]
theorem dd_Mo_dimension : (ld_Mo_dimension).all (dOK prog_14_method_73_code) = true := by decide +kernel
theorem d_Mo_dimension_0 : decode prog_14_method_73_code 0 = .ok (.aload_n 0, 1) := dd_at dd_Mo_dimension 0 rfl
theorem d_Mo_dimension_1 : decode prog_14_method_73_code 1 = .ok (.getfield 128, 3) := dd_at dd_Mo_dimension 1 rfl
theorem d_Mo_dimension_4 : decode prog_14_method_73_code 4 = .ok (.iload_n 1, 1) := dd_at dd_Mo_dimension 2 rfl
theorem d_Mo_dimension_5 : decode prog_14_method_73_code 5 = .ok (.iload_n 2, 1) := dd_at dd_Mo_dimension 3 rfl
theorem d_Mo_dimension_6 : decode prog_14_method_73_code 6 = .ok (.iastore, 1) := dd_at dd_Mo_dimension 4 rfl
theorem d_Mo_dimension_7 : decode prog_14_method_73_code 7 = .ok (.aload_n 0, 1) := dd_at dd_Mo_dimension 5 rfl
theorem d_Mo_dimension_8 : decode prog_14_method_73_code 8 = .ok (.getfield 131, 3) := dd_at dd_Mo_dimension 6 rfl
theorem d_Mo_dimension_11 : decode prog_14_method_73_code 11 = .ok (.iload_n 1, 1) := dd_at dd_Mo_dimension 7 rfl
theorem d_Mo_dimension_12 : decode prog_14_method_73_code 12 = .ok (.iload_n 3, 1) := dd_at dd_Mo_dimension 8 rfl
theorem d_Mo_dimension_13 : decode prog_14_method_73_code 13 = .ok (.iastore, 1) := dd_at dd_Mo_dimension 9 rfl
theorem d_Mo_dimension_14 : decode prog_14_method_73_code 14 = .ok (.iload_n 1, 1) := dd_at dd_Mo_dimension 10 rfl
theorem d_Mo_dimension_15 : decode prog_14_method_73_code 15 = .ok (.bipush (36), 2) := dd_at dd_Mo_dimension 11 rfl
theorem d_Mo_dimension_17 : decode prog_14_method_73_code 17 = .ok (.imul, 1) := dd_at dd_Mo_dimension 12 rfl
theorem d_Mo_dimension_18 : decode prog_14_method_73_code 18 = .ok (.istore 4, 2) := dd_at dd_Mo_dimension 13 rfl
theorem d_Mo_dimension_20 : decode prog_14_method_73_code 20 = .ok (.iload 4, 2) := dd_at dd_Mo_dimension 14 rfl
theorem d_Mo_dimension_22 : decode prog_14_method_73_code 22 = .ok (.iload_n 1, 1) := dd_at dd_Mo_dimension 15 rfl
theorem d_Mo_dimension_23 : decode prog_14_method_73_code 23 = .ok (.bipush (36), 2) := dd_at dd_Mo_dimension 16 rfl
theorem d_Mo_dimension_25 : decode prog_14_method_73_code 25 = .ok (.imul, 1) := dd_at dd_Mo_dimension 17 rfl
theorem d_Mo_dimension_26 : decode prog_14_method_73_code 26 = .ok (.bipush (36), 2) := dd_at dd_Mo_dimension 18 rfl
theorem d_Mo_dimension_28 : decode prog_14_method_73_code 28 = .ok (.iadd, 1) := dd_at dd_Mo_dimension 19 rfl
theorem d_Mo_dimension_29 : decode prog_14_method_73_code 29 = .ok (.if_icmp .ge (17), 3) := dd_at dd_Mo_dimension 20 rfl
theorem d_Mo_dimension_32 : decode prog_14_method_73_code 32 = .ok (.aload_n 0, 1) := dd_at dd_Mo_dimension 21 rfl
theorem d_Mo_dimension_33 : decode prog_14_method_73_code 33 = .ok (.getfield 119, 3) := dd_at dd_Mo_dimension 22 rfl
theorem d_Mo_dimension_36 : decode prog_14_method_73_code 36 = .ok (.iload 4, 2) := dd_at dd_Mo_dimension 23 rfl
theorem d_Mo_dimension_38 : decode prog_14_method_73_code 38 = .ok (.dconst 0, 1) := dd_at dd_Mo_dimension 24 rfl
theorem d_Mo_dimension_39 : decode prog_14_method_73_code 39 = .ok (.dastore, 1) := dd_at dd_Mo_dimension 25 rfl
theorem d_Mo_dimension_40 : decode prog_14_method_73_code 40 = .ok (.iinc 4 (1), 3) := dd_at dd_Mo_dimension 26 rfl
theorem d_Mo_dimension_43 : decode prog_14_method_73_code 43 = .ok (.goto (-23), 3) := dd_at dd_Mo_dimension 27 rfl
theorem d_Mo_dimension_46 : decode prog_14_method_73_code 46 = .ok (.return_, 1) := dd_at dd_Mo_dimension 28 rfl
def ld_Mo_step : List (Nat × Instr × Nat) := [(0, .aload_n 0, 1), (1, .getfield 46, 3), (4, .iload_n 1, 1), (5, .iaload, 1), (6, .istore_n 2, 1), (7, .aload_n 0, 1), (8, .getfield 49, 3), (11, .iload_n 1, 1), (12, .bipush (8), 2), (14, .imul, 1), (15, .iaload, 1), (16, .istore_n 3, 1), (17, .aload_n 0, 1), (18, .aload_n 0, 1), (19, .getfield 42, 3), (22, .iload_n 1, 1), (23, .iaload, 1), (24, .invokevirtual 389, 3), (27, .istore 4, 2), (29, .iload_n 2, 1), (30, .ifCond .eq (9), 3), (33, .iload_n 2, 1), (34, .bipush (9), 2), (36, .if_icmp .ne (19), 3), (39, .aload_n 0, 1), (40, .iload_n 1, 1), (41, .iload_n 2, 1), (42, .bipush (9), 2), (44, .if_icmp .ne (7), 3), (47, .iconst 1, 1), (48, .goto (4), 3), (51, .iconst 0, 1), (52, .invokevirtual 413, 3), (55, .iload_n 2, 1), (56, .iconst 1, 1), (57, .if_icmp .ne (61), 3), (60, .aload_n 0, 1), (61, .aload_n 0, 1), (62, .getfield 52, 3), (65, .iload_n 1, 1), (66, .iconst 4, 1), (67, .imul, 1), (68, .iaload, 1), (69, .invokevirtual 392, 3), (72, .dstore 5, 2), (74, .aload_n 0, 1), (75, .getfield 94, 3), (78, .ifCond .ne (23), 3), (81, .aload_n 0, 1), (82, .getfield 67, 3), (85, .bipush (40), 2), (87, .if_icmp .ge (14), 3), (90, .aload_n 0, 1), (91, .getfield 97, 3), (94, .aload_n 0, 1), (95, .getfield 67, 3), (98, .dload 5, 2), (100, .dastore, 1), (101, .aload_n 0, 1), (102, .getfield 94, 3), (105, .ifCond .ne (13), 3), (108, .aload_n 0, 1), (109, .dup, 1), (110, .getfield 67, 3), (113, .iconst 1, 1), (114, .iadd, 1), (115, .putfield 67, 3), (118, .iload_n 2, 1), (119, .iconst 2, 1), (120, .if_icmp .ne (79), 3), (123, .aload_n 0, 1), (124, .aload_n 0, 1), (125, .getfield 52, 3), (128, .iload_n 1, 1), (129, .iconst 4, 1), (130, .imul, 1), (131, .iaload, 1), (132, .invokevirtual 392, 3), (135, .dstore 5, 2), (137, .aload_n 0, 1), (138, .getfield 94, 3), (141, .ifCond .ne (20), 3), (144, .aload_n 0, 1), (145, .aload_n 0, 1), (146, .getfield 52, 3), (149, .iload_n 1, 1), (150, .iconst 4, 1), (151, .imul, 1), (152, .iconst 1, 1), (153, .iadd, 1), (154, .iaload, 1), (155, .invokevirtual 392, 3), (158, .goto (4), 3), (161, .dconst 0, 1), (162, .dstore 7, 2), (164, .aload_n 0, 1), (165, .getfield 94, 3), (168, .ifCond .ne (31), 3), (171, .aload_n 0, 1), (172, .aload_n 0, 1), (173, .getfield 49, 3), (176, .iload_n 1, 1), (177, .bipush (8), 2), (179, .imul, 1), (180, .iconst 1, 1), (181, .iadd, 1), (182, .iaload, 1), (183, .dload 5, 2), (185, .dload 7, 2), (187, .invokevirtual 417, 3), (190, .ifCond .eq (9), 3), (193, .aload_n 0, 1), (194, .iload_n 3, 1), (195, .invokevirtual 402, 3), (198, .ireturn, 1), (199, .iload_n 2, 1), (200, .iconst 3, 1), (201, .if_icmp .ne (9), 3), (204, .aload_n 0, 1), (205, .iload_n 3, 1), (206, .invokevirtual 402, 3), (209, .ireturn, 1), (210, .iload_n 2, 1), (211, .iconst 4, 1), (212, .if_icmp .ne (9), 3), (215, .aload_n 0, 1), (216, .iload_n 1, 1), (217, .invokevirtual 421, 3), (220, .ireturn, 1), (221, .iload_n 2, 1), (222, .iconst 5, 1), (223, .if_icmp .ne (11), 3), (226, .aload_n 0, 1), (227, .iload_n 1, 1), (228, .iload 4, 2), (230, .invokevirtual 424, 3), (233, .ireturn, 1), (234, .iload_n 2, 1), (235, .bipush (6), 2), (237, .if_icmp .ne (18), 3), (240, .aload_n 0, 1), (241, .getfield 79, 3), (244, .ifCond .ne (11), 3), (247, .aload_n 0, 1), (248, .iconst 2, 1), (249, .putfield 94, 3), (252, .goto (29), 3), (255, .iload_n 2, 1), (256, .bipush (6), 2), (258, .if_icmp .ne (23), 3), (261, .aload_n 0, 1), (262, .dup, 1), (263, .getfield 79, 3), (266, .iconst 1, 1), (267, .isub, 1), (268, .putfield 79, 3), (271, .aload_n 0, 1), (272, .getfield 134, 3), (275, .aload_n 0, 1), (276, .getfield 79, 3), (279, .iaload, 1), (280, .ireturn, 1), (281, .iload_n 2, 1), (282, .bipush (7), 2), (284, .if_icmp .ne (11), 3), (287, .aload_n 0, 1), (288, .iload_n 1, 1), (289, .iload 4, 2), (291, .invokevirtual 427, 3), (294, .ireturn, 1), (295, .iload_n 2, 1), (296, .bipush (8), 2), (298, .if_icmp .ne (11), 3), (301, .aload_n 0, 1), (302, .iload_n 1, 1), (303, .iload 4, 2), (305, .invokevirtual 430, 3), (308, .ireturn, 1), (309, .iload_n 2, 1), (310, .bipush (11), 2), (312, .if_icmp .ne (8), 3), (315, .aload_n 0, 1), (316, .iconst 0, 1), (317, .putfield 70, 3), (320, .iload_n 2, 1), (321, .bipush (12), 2), (323, .if_icmp .ne (30), 3), (326, .aload_n 0, 1), (327, .iload_n 3, 1), (328, .aload_n 0, 1), (329, .getfield 49, 3), (332, .iload_n 1, 1), (333, .bipush (8), 2), (335, .imul, 1), (336, .iconst 1, 1), (337, .iadd, 1), (338, .iaload, 1), (339, .aload_n 0, 1), (340, .getfield 49, 3), (343, .iload_n 1, 1), (344, .bipush (8), 2), (346, .imul, 1), (347, .iconst 2, 1), (348, .iadd, 1), (349, .iaload, 1), (350, .invokevirtual 433, 3), (353, .iload_n 2, 1), (354, .bipush (13), 2), (356, .if_icmp .ne (10), 3), (359, .aload_n 0, 1), (360, .getfield 125, 3), (363, .iload_n 3, 1), (364, .iload_n 1, 1), (365, .iastore, 1), (366, .iload_n 2, 1), (367, .bipush (14), 2), (369, .if_icmp .ne (8), 3), (372, .aload_n 0, 1), (373, .iload_n 1, 1), (374, .invokevirtual 437, 3), (377, .iload_n 2, 1), (378, .bipush (16), 2), (380, .if_icmp .ne (7), 3), (383, .iconst (-1), 1), (384, .goto (5), 3), (387, .iload 4, 2), (389, .ireturn, 1)]
theorem dd_Mo_step : (ld_Mo_step).all (dOK prog_14_method_74_code) = true := by decide +kernel
theorem d_Mo_step_0 : decode prog_14_method_74_code 0 = .ok (.aload_n 0, 1) := dd_at dd_Mo_step 0 rfl
theorem d_Mo_step_1 : decode prog_14_method_74_code 1 = .ok (.getfield 46, 3) := dd_at dd_Mo_step 1 rfl
theorem d_Mo_step_4 : decode prog_14_method_74_code 4 = .ok (.iload_n 1, 1) := dd_at dd_Mo_step 2 rfl
theorem d_Mo_step_5 : decode prog_14_method_74_code 5 = .ok (.iaload, 1) := dd_at dd_Mo_step 3 rfl
theorem d_Mo_step_6 : decode prog_14_method_74_code 6 = .ok (.istore_n 2, 1) := dd_at dd_Mo_step 4 rfl
theorem d_Mo_step_7 : decode prog_14_method_74_code 7 = .ok (.aload_n 0, 1) := dd_at dd_Mo_step 5 rfl
theorem d_Mo_step_8 : decode prog_14_method_74_code 8 = .ok (.getfield 49, 3) := dd_at dd_Mo_step 6 rfl
theorem d_Mo_step_11 : decode prog_14_method_74_code 11 = .ok (.iload_n 1, 1) := dd_at dd_Mo_step 7 rfl
theorem d_Mo_step_12 : decode prog_14_method_74_code 12 = .ok (.bipush (8), 2) := dd_at dd_Mo_step 8 rfl
theorem d_Mo_step_14 : decode prog_14_method_74_code 14 = .ok (.imul, 1) := dd_at dd_Mo_step 9 rfl
theorem d_Mo_step_15 : decode prog_14_method_74_code 15 = .ok (.iaload, 1) := dd_at dd_Mo_step 10 rfl
theorem d_Mo_step_16 : decode prog_14_method_74_code 16 = .ok (.istore_n 3, 1) := dd_at dd_Mo_step 11 rfl
theorem d_Mo_step_17 : decode prog_14_method_74_code 17 = .ok (.aload_n 0, 1) := dd_at dd_Mo_step 12 rfl
theorem d_Mo_step_18 : decode prog_14_method_74_code 18 = .ok (.aload_n 0, 1) := dd_at dd_Mo_step 13 rfl
theorem d_Mo_step_19 : decode prog_14_method_74_code 19 = .ok (.getfield 42, 3) := dd_at dd_Mo_step 14 rfl
theorem d_Mo_step_22 : decode prog_14_method_74_code 22 = .ok (.iload_n 1, 1) := dd_at dd_Mo_step 15 rfl
theorem d_Mo_step_23 : decode prog_14_method_74_code 23 = .ok (.iaload, 1) := dd_at dd_Mo_step 16 rfl
theorem d_Mo_step_24 : decode prog_14_method_74_code 24 = .ok (.invokevirtual 389, 3) := dd_at dd_Mo_step 17 rfl
theorem d_Mo_step_27 : decode prog_14_method_74_code 27 = .ok (.istore 4, 2) := dd_at dd_Mo_step 18 rfl
theorem d_Mo_step_29 : decode prog_14_method_74_code 29 = .ok (.iload_n 2, 1) := dd_at dd_Mo_step 19 rfl
theorem d_Mo_step_30 : decode prog_14_method_74_code 30 = .ok (.ifCond .eq (9), 3) := dd_at dd_Mo_step 20 rfl
theorem d_Mo_step_33 : decode prog_14_method_74_code 33 = .ok (.iload_n 2, 1) := dd_at dd_Mo_step 21 rfl
theorem d_Mo_step_34 : decode prog_14_method_74_code 34 = .ok (.bipush (9), 2) := dd_at dd_Mo_step 22 rfl
theorem d_Mo_step_36 : decode prog_14_method_74_code 36 = .ok (.if_icmp .ne (19), 3) := dd_at dd_Mo_step 23 rfl
theorem d_Mo_step_39 : decode prog_14_method_74_code 39 = .ok (.aload_n 0, 1) := dd_at dd_Mo_step 24 rfl
theorem d_Mo_step_40 : decode prog_14_method_74_code 40 = .ok (.iload_n 1, 1) := dd_at dd_Mo_step 25 rfl
theorem d_Mo_step_41 : decode prog_14_method_74_code 41 = .ok (.iload_n 2, 1) := dd_at dd_Mo_step 26 rfl
theorem d_Mo_step_42 : decode prog_14_method_74_code 42 = .ok (.bipush (9), 2) := dd_at dd_Mo_step 27 rfl
theorem d_Mo_step_44 : decode prog_14_method_74_code 44 = .ok (.if_icmp .ne (7), 3) := dd_at dd_Mo_step 28 rfl
theorem d_Mo_step_47 : decode prog_14_method_74_code 47 = .ok (.iconst 1, 1) := dd_at dd_Mo_step 29 rfl
theorem d_Mo_step_48 : decode prog_14_method_74_code 48 = .ok (.goto (4), 3) := dd_at dd_Mo_step 30 rfl
theorem d_Mo_step_51 : decode prog_14_method_74_code 51 = .ok (.iconst 0, 1) := dd_at dd_Mo_step 31 rfl
theorem d_Mo_step_52 : decode prog_14_method_74_code 52 = .ok (.invokevirtual 413, 3) := dd_at dd_Mo_step 32 rfl
theorem d_Mo_step_55 : decode prog_14_method_74_code 55 = .ok (.iload_n 2, 1) := dd_at dd_Mo_step 33 rfl
theorem d_Mo_step_56 : decode prog_14_method_74_code 56 = .ok (.iconst 1, 1) := dd_at dd_Mo_step 34 rfl
theorem d_Mo_step_57 : decode prog_14_method_74_code 57 = .ok (.if_icmp .ne (61), 3) := dd_at dd_Mo_step 35 rfl
theorem d_Mo_step_60 : decode prog_14_method_74_code 60 = .ok (.aload_n 0, 1) := dd_at dd_Mo_step 36 rfl
theorem d_Mo_step_61 : decode prog_14_method_74_code 61 = .ok (.aload_n 0, 1) := dd_at dd_Mo_step 37 rfl
theorem d_Mo_step_62 : decode prog_14_method_74_code 62 = .ok (.getfield 52, 3) := dd_at dd_Mo_step 38 rfl
theorem d_Mo_step_65 : decode prog_14_method_74_code 65 = .ok (.iload_n 1, 1) := dd_at dd_Mo_step 39 rfl
theorem d_Mo_step_66 : decode prog_14_method_74_code 66 = .ok (.iconst 4, 1) := dd_at dd_Mo_step 40 rfl
theorem d_Mo_step_67 : decode prog_14_method_74_code 67 = .ok (.imul, 1) := dd_at dd_Mo_step 41 rfl
theorem d_Mo_step_68 : decode prog_14_method_74_code 68 = .ok (.iaload, 1) := dd_at dd_Mo_step 42 rfl
theorem d_Mo_step_69 : decode prog_14_method_74_code 69 = .ok (.invokevirtual 392, 3) := dd_at dd_Mo_step 43 rfl
theorem d_Mo_step_72 : decode prog_14_method_74_code 72 = .ok (.dstore 5, 2) := dd_at dd_Mo_step 44 rfl
theorem d_Mo_step_74 : decode prog_14_method_74_code 74 = .ok (.aload_n 0, 1) := dd_at dd_Mo_step 45 rfl
theorem d_Mo_step_75 : decode prog_14_method_74_code 75 = .ok (.getfield 94, 3) := dd_at dd_Mo_step 46 rfl
theorem d_Mo_step_78 : decode prog_14_method_74_code 78 = .ok (.ifCond .ne (23), 3) := dd_at dd_Mo_step 47 rfl
theorem d_Mo_step_81 : decode prog_14_method_74_code 81 = .ok (.aload_n 0, 1) := dd_at dd_Mo_step 48 rfl
theorem d_Mo_step_82 : decode prog_14_method_74_code 82 = .ok (.getfield 67, 3) := dd_at dd_Mo_step 49 rfl
theorem d_Mo_step_85 : decode prog_14_method_74_code 85 = .ok (.bipush (40), 2) := dd_at dd_Mo_step 50 rfl
theorem d_Mo_step_87 : decode prog_14_method_74_code 87 = .ok (.if_icmp .ge (14), 3) := dd_at dd_Mo_step 51 rfl
theorem d_Mo_step_90 : decode prog_14_method_74_code 90 = .ok (.aload_n 0, 1) := dd_at dd_Mo_step 52 rfl
theorem d_Mo_step_91 : decode prog_14_method_74_code 91 = .ok (.getfield 97, 3) := dd_at dd_Mo_step 53 rfl
theorem d_Mo_step_94 : decode prog_14_method_74_code 94 = .ok (.aload_n 0, 1) := dd_at dd_Mo_step 54 rfl
theorem d_Mo_step_95 : decode prog_14_method_74_code 95 = .ok (.getfield 67, 3) := dd_at dd_Mo_step 55 rfl
theorem d_Mo_step_98 : decode prog_14_method_74_code 98 = .ok (.dload 5, 2) := dd_at dd_Mo_step 56 rfl
theorem d_Mo_step_100 : decode prog_14_method_74_code 100 = .ok (.dastore, 1) := dd_at dd_Mo_step 57 rfl
theorem d_Mo_step_101 : decode prog_14_method_74_code 101 = .ok (.aload_n 0, 1) := dd_at dd_Mo_step 58 rfl
theorem d_Mo_step_102 : decode prog_14_method_74_code 102 = .ok (.getfield 94, 3) := dd_at dd_Mo_step 59 rfl
theorem d_Mo_step_105 : decode prog_14_method_74_code 105 = .ok (.ifCond .ne (13), 3) := dd_at dd_Mo_step 60 rfl
theorem d_Mo_step_108 : decode prog_14_method_74_code 108 = .ok (.aload_n 0, 1) := dd_at dd_Mo_step 61 rfl
theorem d_Mo_step_109 : decode prog_14_method_74_code 109 = .ok (.dup, 1) := dd_at dd_Mo_step 62 rfl
theorem d_Mo_step_110 : decode prog_14_method_74_code 110 = .ok (.getfield 67, 3) := dd_at dd_Mo_step 63 rfl
theorem d_Mo_step_113 : decode prog_14_method_74_code 113 = .ok (.iconst 1, 1) := dd_at dd_Mo_step 64 rfl
theorem d_Mo_step_114 : decode prog_14_method_74_code 114 = .ok (.iadd, 1) := dd_at dd_Mo_step 65 rfl
theorem d_Mo_step_115 : decode prog_14_method_74_code 115 = .ok (.putfield 67, 3) := dd_at dd_Mo_step 66 rfl
theorem d_Mo_step_118 : decode prog_14_method_74_code 118 = .ok (.iload_n 2, 1) := dd_at dd_Mo_step 67 rfl
theorem d_Mo_step_119 : decode prog_14_method_74_code 119 = .ok (.iconst 2, 1) := dd_at dd_Mo_step 68 rfl
theorem d_Mo_step_120 : decode prog_14_method_74_code 120 = .ok (.if_icmp .ne (79), 3) := dd_at dd_Mo_step 69 rfl
theorem d_Mo_step_123 : decode prog_14_method_74_code 123 = .ok (.aload_n 0, 1) := dd_at dd_Mo_step 70 rfl
theorem d_Mo_step_124 : decode prog_14_method_74_code 124 = .ok (.aload_n 0, 1) := dd_at dd_Mo_step 71 rfl
theorem d_Mo_step_125 : decode prog_14_method_74_code 125 = .ok (.getfield 52, 3) := dd_at dd_Mo_step 72 rfl
theorem d_Mo_step_128 : decode prog_14_method_74_code 128 = .ok (.iload_n 1, 1) := dd_at dd_Mo_step 73 rfl
theorem d_Mo_step_129 : decode prog_14_method_74_code 129 = .ok (.iconst 4, 1) := dd_at dd_Mo_step 74 rfl
theorem d_Mo_step_130 : decode prog_14_method_74_code 130 = .ok (.imul, 1) := dd_at dd_Mo_step 75 rfl
theorem d_Mo_step_131 : decode prog_14_method_74_code 131 = .ok (.iaload, 1) := dd_at dd_Mo_step 76 rfl
theorem d_Mo_step_132 : decode prog_14_method_74_code 132 = .ok (.invokevirtual 392, 3) := dd_at dd_Mo_step 77 rfl
theorem d_Mo_step_135 : decode prog_14_method_74_code 135 = .ok (.dstore 5, 2) := dd_at dd_Mo_step 78 rfl
theorem d_Mo_step_137 : decode prog_14_method_74_code 137 = .ok (.aload_n 0, 1) := dd_at dd_Mo_step 79 rfl
theorem d_Mo_step_138 : decode prog_14_method_74_code 138 = .ok (.getfield 94, 3) := dd_at dd_Mo_step 80 rfl
theorem d_Mo_step_141 : decode prog_14_method_74_code 141 = .ok (.ifCond .ne (20), 3) := dd_at dd_Mo_step 81 rfl
theorem d_Mo_step_144 : decode prog_14_method_74_code 144 = .ok (.aload_n 0, 1) := dd_at dd_Mo_step 82 rfl
theorem d_Mo_step_145 : decode prog_14_method_74_code 145 = .ok (.aload_n 0, 1) := dd_at dd_Mo_step 83 rfl
theorem d_Mo_step_146 : decode prog_14_method_74_code 146 = .ok (.getfield 52, 3) := dd_at dd_Mo_step 84 rfl
theorem d_Mo_step_149 : decode prog_14_method_74_code 149 = .ok (.iload_n 1, 1) := dd_at dd_Mo_step 85 rfl
theorem d_Mo_step_150 : decode prog_14_method_74_code 150 = .ok (.iconst 4, 1) := dd_at dd_Mo_step 86 rfl
theorem d_Mo_step_151 : decode prog_14_method_74_code 151 = .ok (.imul, 1) := dd_at dd_Mo_step 87 rfl
theorem d_Mo_step_152 : decode prog_14_method_74_code 152 = .ok (.iconst 1, 1) := dd_at dd_Mo_step 88 rfl
theorem d_Mo_step_153 : decode prog_14_method_74_code 153 = .ok (.iadd, 1) := dd_at dd_Mo_step 89 rfl
theorem d_Mo_step_154 : decode prog_14_method_74_code 154 = .ok (.iaload, 1) := dd_at dd_Mo_step 90 rfl
theorem d_Mo_step_155 : decode prog_14_method_74_code 155 = .ok (.invokevirtual 392, 3) := dd_at dd_Mo_step 91 rfl
theorem d_Mo_step_158 : decode prog_14_method_74_code 158 = .ok (.goto (4), 3) := dd_at dd_Mo_step 92 rfl
theorem d_Mo_step_161 : decode prog_14_method_74_code 161 = .ok (.dconst 0, 1) := dd_at dd_Mo_step 93 rfl
theorem d_Mo_step_162 : decode prog_14_method_74_code 162 = .ok (.dstore 7, 2) := dd_at dd_Mo_step 94 rfl
theorem d_Mo_step_164 : decode prog_14_method_74_code 164 = .ok (.aload_n 0, 1) := dd_at dd_Mo_step 95 rfl
theorem d_Mo_step_165 : decode prog_14_method_74_code 165 = .ok (.getfield 94, 3) := dd_at dd_Mo_step 96 rfl
theorem d_Mo_step_168 : decode prog_14_method_74_code 168 = .ok (.ifCond .ne (31), 3) := dd_at dd_Mo_step 97 rfl
theorem d_Mo_step_171 : decode prog_14_method_74_code 171 = .ok (.aload_n 0, 1) := dd_at dd_Mo_step 98 rfl
theorem d_Mo_step_172 : decode prog_14_method_74_code 172 = .ok (.aload_n 0, 1) := dd_at dd_Mo_step 99 rfl
theorem d_Mo_step_173 : decode prog_14_method_74_code 173 = .ok (.getfield 49, 3) := dd_at dd_Mo_step 100 rfl
theorem d_Mo_step_176 : decode prog_14_method_74_code 176 = .ok (.iload_n 1, 1) := dd_at dd_Mo_step 101 rfl
theorem d_Mo_step_177 : decode prog_14_method_74_code 177 = .ok (.bipush (8), 2) := dd_at dd_Mo_step 102 rfl
theorem d_Mo_step_179 : decode prog_14_method_74_code 179 = .ok (.imul, 1) := dd_at dd_Mo_step 103 rfl
theorem d_Mo_step_180 : decode prog_14_method_74_code 180 = .ok (.iconst 1, 1) := dd_at dd_Mo_step 104 rfl
theorem d_Mo_step_181 : decode prog_14_method_74_code 181 = .ok (.iadd, 1) := dd_at dd_Mo_step 105 rfl
theorem d_Mo_step_182 : decode prog_14_method_74_code 182 = .ok (.iaload, 1) := dd_at dd_Mo_step 106 rfl
theorem d_Mo_step_183 : decode prog_14_method_74_code 183 = .ok (.dload 5, 2) := dd_at dd_Mo_step 107 rfl
theorem d_Mo_step_185 : decode prog_14_method_74_code 185 = .ok (.dload 7, 2) := dd_at dd_Mo_step 108 rfl
theorem d_Mo_step_187 : decode prog_14_method_74_code 187 = .ok (.invokevirtual 417, 3) := dd_at dd_Mo_step 109 rfl
theorem d_Mo_step_190 : decode prog_14_method_74_code 190 = .ok (.ifCond .eq (9), 3) := dd_at dd_Mo_step 110 rfl
theorem d_Mo_step_193 : decode prog_14_method_74_code 193 = .ok (.aload_n 0, 1) := dd_at dd_Mo_step 111 rfl
theorem d_Mo_step_194 : decode prog_14_method_74_code 194 = .ok (.iload_n 3, 1) := dd_at dd_Mo_step 112 rfl
theorem d_Mo_step_195 : decode prog_14_method_74_code 195 = .ok (.invokevirtual 402, 3) := dd_at dd_Mo_step 113 rfl
theorem d_Mo_step_198 : decode prog_14_method_74_code 198 = .ok (.ireturn, 1) := dd_at dd_Mo_step 114 rfl
theorem d_Mo_step_199 : decode prog_14_method_74_code 199 = .ok (.iload_n 2, 1) := dd_at dd_Mo_step 115 rfl
theorem d_Mo_step_200 : decode prog_14_method_74_code 200 = .ok (.iconst 3, 1) := dd_at dd_Mo_step 116 rfl
theorem d_Mo_step_201 : decode prog_14_method_74_code 201 = .ok (.if_icmp .ne (9), 3) := dd_at dd_Mo_step 117 rfl
theorem d_Mo_step_204 : decode prog_14_method_74_code 204 = .ok (.aload_n 0, 1) := dd_at dd_Mo_step 118 rfl
theorem d_Mo_step_205 : decode prog_14_method_74_code 205 = .ok (.iload_n 3, 1) := dd_at dd_Mo_step 119 rfl
theorem d_Mo_step_206 : decode prog_14_method_74_code 206 = .ok (.invokevirtual 402, 3) := dd_at dd_Mo_step 120 rfl
theorem d_Mo_step_209 : decode prog_14_method_74_code 209 = .ok (.ireturn, 1) := dd_at dd_Mo_step 121 rfl
theorem d_Mo_step_210 : decode prog_14_method_74_code 210 = .ok (.iload_n 2, 1) := dd_at dd_Mo_step 122 rfl
theorem d_Mo_step_211 : decode prog_14_method_74_code 211 = .ok (.iconst 4, 1) := dd_at dd_Mo_step 123 rfl
theorem d_Mo_step_212 : decode prog_14_method_74_code 212 = .ok (.if_icmp .ne (9), 3) := dd_at dd_Mo_step 124 rfl
theorem d_Mo_step_215 : decode prog_14_method_74_code 215 = .ok (.aload_n 0, 1) := dd_at dd_Mo_step 125 rfl
theorem d_Mo_step_216 : decode prog_14_method_74_code 216 = .ok (.iload_n 1, 1) := dd_at dd_Mo_step 126 rfl
theorem d_Mo_step_217 : decode prog_14_method_74_code 217 = .ok (.invokevirtual 421, 3) := dd_at dd_Mo_step 127 rfl
theorem d_Mo_step_220 : decode prog_14_method_74_code 220 = .ok (.ireturn, 1) := dd_at dd_Mo_step 128 rfl
theorem d_Mo_step_221 : decode prog_14_method_74_code 221 = .ok (.iload_n 2, 1) := dd_at dd_Mo_step 129 rfl
theorem d_Mo_step_222 : decode prog_14_method_74_code 222 = .ok (.iconst 5, 1) := dd_at dd_Mo_step 130 rfl
theorem d_Mo_step_223 : decode prog_14_method_74_code 223 = .ok (.if_icmp .ne (11), 3) := dd_at dd_Mo_step 131 rfl
theorem d_Mo_step_226 : decode prog_14_method_74_code 226 = .ok (.aload_n 0, 1) := dd_at dd_Mo_step 132 rfl
theorem d_Mo_step_227 : decode prog_14_method_74_code 227 = .ok (.iload_n 1, 1) := dd_at dd_Mo_step 133 rfl
theorem d_Mo_step_228 : decode prog_14_method_74_code 228 = .ok (.iload 4, 2) := dd_at dd_Mo_step 134 rfl
theorem d_Mo_step_230 : decode prog_14_method_74_code 230 = .ok (.invokevirtual 424, 3) := dd_at dd_Mo_step 135 rfl
theorem d_Mo_step_233 : decode prog_14_method_74_code 233 = .ok (.ireturn, 1) := dd_at dd_Mo_step 136 rfl
theorem d_Mo_step_234 : decode prog_14_method_74_code 234 = .ok (.iload_n 2, 1) := dd_at dd_Mo_step 137 rfl
theorem d_Mo_step_235 : decode prog_14_method_74_code 235 = .ok (.bipush (6), 2) := dd_at dd_Mo_step 138 rfl
theorem d_Mo_step_237 : decode prog_14_method_74_code 237 = .ok (.if_icmp .ne (18), 3) := dd_at dd_Mo_step 139 rfl
theorem d_Mo_step_240 : decode prog_14_method_74_code 240 = .ok (.aload_n 0, 1) := dd_at dd_Mo_step 140 rfl
theorem d_Mo_step_241 : decode prog_14_method_74_code 241 = .ok (.getfield 79, 3) := dd_at dd_Mo_step 141 rfl
theorem d_Mo_step_244 : decode prog_14_method_74_code 244 = .ok (.ifCond .ne (11), 3) := dd_at dd_Mo_step 142 rfl
theorem d_Mo_step_247 : decode prog_14_method_74_code 247 = .ok (.aload_n 0, 1) := dd_at dd_Mo_step 143 rfl
theorem d_Mo_step_248 : decode prog_14_method_74_code 248 = .ok (.iconst 2, 1) := dd_at dd_Mo_step 144 rfl
theorem d_Mo_step_249 : decode prog_14_method_74_code 249 = .ok (.putfield 94, 3) := dd_at dd_Mo_step 145 rfl
theorem d_Mo_step_252 : decode prog_14_method_74_code 252 = .ok (.goto (29), 3) := dd_at dd_Mo_step 146 rfl
theorem d_Mo_step_255 : decode prog_14_method_74_code 255 = .ok (.iload_n 2, 1) := dd_at dd_Mo_step 147 rfl
theorem d_Mo_step_256 : decode prog_14_method_74_code 256 = .ok (.bipush (6), 2) := dd_at dd_Mo_step 148 rfl
theorem d_Mo_step_258 : decode prog_14_method_74_code 258 = .ok (.if_icmp .ne (23), 3) := dd_at dd_Mo_step 149 rfl
theorem d_Mo_step_261 : decode prog_14_method_74_code 261 = .ok (.aload_n 0, 1) := dd_at dd_Mo_step 150 rfl
theorem d_Mo_step_262 : decode prog_14_method_74_code 262 = .ok (.dup, 1) := dd_at dd_Mo_step 151 rfl
theorem d_Mo_step_263 : decode prog_14_method_74_code 263 = .ok (.getfield 79, 3) := dd_at dd_Mo_step 152 rfl
theorem d_Mo_step_266 : decode prog_14_method_74_code 266 = .ok (.iconst 1, 1) := dd_at dd_Mo_step 153 rfl
theorem d_Mo_step_267 : decode prog_14_method_74_code 267 = .ok (.isub, 1) := dd_at dd_Mo_step 154 rfl
theorem d_Mo_step_268 : decode prog_14_method_74_code 268 = .ok (.putfield 79, 3) := dd_at dd_Mo_step 155 rfl
theorem d_Mo_step_271 : decode prog_14_method_74_code 271 = .ok (.aload_n 0, 1) := dd_at dd_Mo_step 156 rfl
theorem d_Mo_step_272 : decode prog_14_method_74_code 272 = .ok (.getfield 134, 3) := dd_at dd_Mo_step 157 rfl
theorem d_Mo_step_275 : decode prog_14_method_74_code 275 = .ok (.aload_n 0, 1) := dd_at dd_Mo_step 158 rfl
theorem d_Mo_step_276 : decode prog_14_method_74_code 276 = .ok (.getfield 79, 3) := dd_at dd_Mo_step 159 rfl
theorem d_Mo_step_279 : decode prog_14_method_74_code 279 = .ok (.iaload, 1) := dd_at dd_Mo_step 160 rfl
theorem d_Mo_step_280 : decode prog_14_method_74_code 280 = .ok (.ireturn, 1) := dd_at dd_Mo_step 161 rfl
theorem d_Mo_step_281 : decode prog_14_method_74_code 281 = .ok (.iload_n 2, 1) := dd_at dd_Mo_step 162 rfl
theorem d_Mo_step_282 : decode prog_14_method_74_code 282 = .ok (.bipush (7), 2) := dd_at dd_Mo_step 163 rfl
theorem d_Mo_step_284 : decode prog_14_method_74_code 284 = .ok (.if_icmp .ne (11), 3) := dd_at dd_Mo_step 164 rfl
theorem d_Mo_step_287 : decode prog_14_method_74_code 287 = .ok (.aload_n 0, 1) := dd_at dd_Mo_step 165 rfl
theorem d_Mo_step_288 : decode prog_14_method_74_code 288 = .ok (.iload_n 1, 1) := dd_at dd_Mo_step 166 rfl
theorem d_Mo_step_289 : decode prog_14_method_74_code 289 = .ok (.iload 4, 2) := dd_at dd_Mo_step 167 rfl
theorem d_Mo_step_291 : decode prog_14_method_74_code 291 = .ok (.invokevirtual 427, 3) := dd_at dd_Mo_step 168 rfl
theorem d_Mo_step_294 : decode prog_14_method_74_code 294 = .ok (.ireturn, 1) := dd_at dd_Mo_step 169 rfl
theorem d_Mo_step_295 : decode prog_14_method_74_code 295 = .ok (.iload_n 2, 1) := dd_at dd_Mo_step 170 rfl
theorem d_Mo_step_296 : decode prog_14_method_74_code 296 = .ok (.bipush (8), 2) := dd_at dd_Mo_step 171 rfl
theorem d_Mo_step_298 : decode prog_14_method_74_code 298 = .ok (.if_icmp .ne (11), 3) := dd_at dd_Mo_step 172 rfl
theorem d_Mo_step_301 : decode prog_14_method_74_code 301 = .ok (.aload_n 0, 1) := dd_at dd_Mo_step 173 rfl
theorem d_Mo_step_302 : decode prog_14_method_74_code 302 = .ok (.iload_n 1, 1) := dd_at dd_Mo_step 174 rfl
theorem d_Mo_step_303 : decode prog_14_method_74_code 303 = .ok (.iload 4, 2) := dd_at dd_Mo_step 175 rfl
theorem d_Mo_step_305 : decode prog_14_method_74_code 305 = .ok (.invokevirtual 430, 3) := dd_at dd_Mo_step 176 rfl
theorem d_Mo_step_308 : decode prog_14_method_74_code 308 = .ok (.ireturn, 1) := dd_at dd_Mo_step 177 rfl
theorem d_Mo_step_309 : decode prog_14_method_74_code 309 = .ok (.iload_n 2, 1) := dd_at dd_Mo_step 178 rfl
theorem d_Mo_step_310 : decode prog_14_method_74_code 310 = .ok (.bipush (11), 2) := dd_at dd_Mo_step 179 rfl
theorem d_Mo_step_312 : decode prog_14_method_74_code 312 = .ok (.if_icmp .ne (8), 3) := dd_at dd_Mo_step 180 rfl
theorem d_Mo_step_315 : decode prog_14_method_74_code 315 = .ok (.aload_n 0, 1) := dd_at dd_Mo_step 181 rfl
theorem d_Mo_step_316 : decode prog_14_method_74_code 316 = .ok (.iconst 0, 1) := dd_at dd_Mo_step 182 rfl
theorem d_Mo_step_317 : decode prog_14_method_74_code 317 = .ok (.putfield 70, 3) := dd_at dd_Mo_step 183 rfl
theorem d_Mo_step_320 : decode prog_14_method_74_code 320 = .ok (.iload_n 2, 1) := dd_at dd_Mo_step 184 rfl
theorem d_Mo_step_321 : decode prog_14_method_74_code 321 = .ok (.bipush (12), 2) := dd_at dd_Mo_step 185 rfl
theorem d_Mo_step_323 : decode prog_14_method_74_code 323 = .ok (.if_icmp .ne (30), 3) := dd_at dd_Mo_step 186 rfl
theorem d_Mo_step_326 : decode prog_14_method_74_code 326 = .ok (.aload_n 0, 1) := dd_at dd_Mo_step 187 rfl
theorem d_Mo_step_327 : decode prog_14_method_74_code 327 = .ok (.iload_n 3, 1) := dd_at dd_Mo_step 188 rfl
theorem d_Mo_step_328 : decode prog_14_method_74_code 328 = .ok (.aload_n 0, 1) := dd_at dd_Mo_step 189 rfl
theorem d_Mo_step_329 : decode prog_14_method_74_code 329 = .ok (.getfield 49, 3) := dd_at dd_Mo_step 190 rfl
theorem d_Mo_step_332 : decode prog_14_method_74_code 332 = .ok (.iload_n 1, 1) := dd_at dd_Mo_step 191 rfl
theorem d_Mo_step_333 : decode prog_14_method_74_code 333 = .ok (.bipush (8), 2) := dd_at dd_Mo_step 192 rfl
theorem d_Mo_step_335 : decode prog_14_method_74_code 335 = .ok (.imul, 1) := dd_at dd_Mo_step 193 rfl
theorem d_Mo_step_336 : decode prog_14_method_74_code 336 = .ok (.iconst 1, 1) := dd_at dd_Mo_step 194 rfl
theorem d_Mo_step_337 : decode prog_14_method_74_code 337 = .ok (.iadd, 1) := dd_at dd_Mo_step 195 rfl
theorem d_Mo_step_338 : decode prog_14_method_74_code 338 = .ok (.iaload, 1) := dd_at dd_Mo_step 196 rfl
theorem d_Mo_step_339 : decode prog_14_method_74_code 339 = .ok (.aload_n 0, 1) := dd_at dd_Mo_step 197 rfl
theorem d_Mo_step_340 : decode prog_14_method_74_code 340 = .ok (.getfield 49, 3) := dd_at dd_Mo_step 198 rfl
theorem d_Mo_step_343 : decode prog_14_method_74_code 343 = .ok (.iload_n 1, 1) := dd_at dd_Mo_step 199 rfl
theorem d_Mo_step_344 : decode prog_14_method_74_code 344 = .ok (.bipush (8), 2) := dd_at dd_Mo_step 200 rfl
theorem d_Mo_step_346 : decode prog_14_method_74_code 346 = .ok (.imul, 1) := dd_at dd_Mo_step 201 rfl
theorem d_Mo_step_347 : decode prog_14_method_74_code 347 = .ok (.iconst 2, 1) := dd_at dd_Mo_step 202 rfl
theorem d_Mo_step_348 : decode prog_14_method_74_code 348 = .ok (.iadd, 1) := dd_at dd_Mo_step 203 rfl
theorem d_Mo_step_349 : decode prog_14_method_74_code 349 = .ok (.iaload, 1) := dd_at dd_Mo_step 204 rfl
theorem d_Mo_step_350 : decode prog_14_method_74_code 350 = .ok (.invokevirtual 433, 3) := dd_at dd_Mo_step 205 rfl
theorem d_Mo_step_353 : decode prog_14_method_74_code 353 = .ok (.iload_n 2, 1) := dd_at dd_Mo_step 206 rfl
theorem d_Mo_step_354 : decode prog_14_method_74_code 354 = .ok (.bipush (13), 2) := dd_at dd_Mo_step 207 rfl
theorem d_Mo_step_356 : decode prog_14_method_74_code 356 = .ok (.if_icmp .ne (10), 3) := dd_at dd_Mo_step 208 rfl
theorem d_Mo_step_359 : decode prog_14_method_74_code 359 = .ok (.aload_n 0, 1) := dd_at dd_Mo_step 209 rfl
theorem d_Mo_step_360 : decode prog_14_method_74_code 360 = .ok (.getfield 125, 3) := dd_at dd_Mo_step 210 rfl
theorem d_Mo_step_363 : decode prog_14_method_74_code 363 = .ok (.iload_n 3, 1) := dd_at dd_Mo_step 211 rfl
theorem d_Mo_step_364 : decode prog_14_method_74_code 364 = .ok (.iload_n 1, 1) := dd_at dd_Mo_step 212 rfl
theorem d_Mo_step_365 : decode prog_14_method_74_code 365 = .ok (.iastore, 1) := dd_at dd_Mo_step 213 rfl
theorem d_Mo_step_366 : decode prog_14_method_74_code 366 = .ok (.iload_n 2, 1) := dd_at dd_Mo_step 214 rfl
theorem d_Mo_step_367 : decode prog_14_method_74_code 367 = .ok (.bipush (14), 2) := dd_at dd_Mo_step 215 rfl
theorem d_Mo_step_369 : decode prog_14_method_74_code 369 = .ok (.if_icmp .ne (8), 3) := dd_at dd_Mo_step 216 rfl
theorem d_Mo_step_372 : decode prog_14_method_74_code 372 = .ok (.aload_n 0, 1) := dd_at dd_Mo_step 217 rfl
theorem d_Mo_step_373 : decode prog_14_method_74_code 373 = .ok (.iload_n 1, 1) := dd_at dd_Mo_step 218 rfl
theorem d_Mo_step_374 : decode prog_14_method_74_code 374 = .ok (.invokevirtual 437, 3) := dd_at dd_Mo_step 219 rfl
theorem d_Mo_step_377 : decode prog_14_method_74_code 377 = .ok (.iload_n 2, 1) := dd_at dd_Mo_step 220 rfl
theorem d_Mo_step_378 : decode prog_14_method_74_code 378 = .ok (.bipush (16), 2) := dd_at dd_Mo_step 221 rfl
theorem d_Mo_step_380 : decode prog_14_method_74_code 380 = .ok (.if_icmp .ne (7), 3) := dd_at dd_Mo_step 222 rfl
theorem d_Mo_step_383 : decode prog_14_method_74_code 383 = .ok (.iconst (-1), 1) := dd_at dd_Mo_step 223 rfl
theorem d_Mo_step_384 : decode prog_14_method_74_code 384 = .ok (.goto (5), 3) := dd_at dd_Mo_step 224 rfl
theorem d_Mo_step_387 : decode prog_14_method_74_code 387 = .ok (.iload 4, 2) := dd_at dd_Mo_step 225 rfl
theorem d_Mo_step_389 : decode prog_14_method_74_code 389 = .ok (.ireturn, 1) := dd_at dd_Mo_step 226 rfl
def ld_Mo_run : List (Nat × Instr × Nat) := [(0, .iconst 0, 1), (1, .istore_n 1, 1), (2, .iload_n 1, 1), (3, .bipush (26), 2), (5, .if_icmp .ge (16), 3), (8, .aload_n 0, 1), (9, .getfield 101, 3), (12, .iload_n 1, 1), (13, .dconst 0, 1), (14, .dastore, 1), (15, .iinc 1 (1), 3), (18, .goto (-16), 3), (21, .iconst 0, 1), (22, .istore_n 1, 1), (23, .iload_n 1, 1), (24, .iconst 3, 1), (25, .if_icmp .ge (23), 3), (28, .aload_n 0, 1), (29, .iload_n 1, 1), (30, .iconst 0, 1), (31, .iconst 0, 1), (32, .invokevirtual 433, 3), (35, .aload_n 0, 1), (36, .getfield 125, 3), (39, .iload_n 1, 1), (40, .iconst (-1), 1), (41, .iastore, 1), (42, .iinc 1 (1), 3), (45, .goto (-22), 3), (48, .aload_n 0, 1), (49, .iconst 0, 1), (50, .putfield 61, 3), (53, .aload_n 0, 1), (54, .iconst (-1), 1), (55, .putfield 64, 3), (58, .aload_n 0, 1), (59, .iconst 0, 1), (60, .putfield 67, 3), (63, .aload_n 0, 1), (64, .iconst 0, 1), (65, .putfield 70, 3), (68, .aload_n 0, 1), (69, .iconst 0, 1), (70, .putfield 79, 3), (73, .aload_n 0, 1), (74, .iconst 0, 1), (75, .putfield 82, 3), (78, .aload_n 0, 1), (79, .iconst 0, 1), (80, .putfield 94, 3), (83, .aload_n 0, 1), (84, .invokevirtual 440, 3), (87, .aload_n 0, 1), (88, .iconst 0, 1), (89, .invokevirtual 389, 3), (92, .istore_n 1, 1), (93, .iload_n 1, 1), (94, .ifCond .lt (57), 3), (97, .aload_n 0, 1), (98, .getfield 94, 3), (101, .ifCond .ne (50), 3), (104, .aload_n 0, 1), (105, .getfield 61, 3), (108, .sipush (300), 3), (111, .if_icmp .ne (11), 3), (114, .aload_n 0, 1), (115, .iconst 2, 1), (116, .putfield 94, 3), (119, .goto (-26), 3), (122, .aload_n 0, 1), (123, .dup, 1), (124, .getfield 61, 3), (127, .iconst 1, 1), (128, .iadd, 1), (129, .putfield 61, 3), (132, .aload_n 0, 1), (133, .aload_n 0, 1), (134, .getfield 42, 3), (137, .iload_n 1, 1), (138, .iaload, 1), (139, .putfield 64, 3), (142, .aload_n 0, 1), (143, .iload_n 1, 1), (144, .invokevirtual 443, 3), (147, .istore_n 1, 1), (148, .goto (-55), 3), (151, .aload_n 0, 1), (152, .aload_n 0, 1), (153, .getfield 73, 3), (156, .aload_n 0, 1), (157, .getfield 70, 3), (160, .isub, 1), (161, .putfield 76, 3), (164, .aload_n 0, 1), (165, .getfield 94, 3), (168, .ifCond .ne (12), 3), (171, .aload_n 0, 1), (172, .aload_n 0, 1), (173, .getfield 61, 3), (176, .invokevirtual 153, 3), (179, .ireturn, 1), (180, .aload_n 0, 1), (181, .dup, 1), (182, .getfield 91, 3), (185, .iconst 1, 1), (186, .iadd, 1), (187, .putfield 91, 3), (190, .aload_n 0, 1), (191, .aload_n 0, 1), (192, .getfield 94, 3), (195, .invokevirtual 149, 3), (198, .ireturn, 1)]
theorem dd_Mo_run : (ld_Mo_run).all (dOK prog_14_method_75_code) = true := by decide +kernel
theorem d_Mo_run_0 : decode prog_14_method_75_code 0 = .ok (.iconst 0, 1) := dd_at dd_Mo_run 0 rfl
theorem d_Mo_run_1 : decode prog_14_method_75_code 1 = .ok (.istore_n 1, 1) := dd_at dd_Mo_run 1 rfl
theorem d_Mo_run_2 : decode prog_14_method_75_code 2 = .ok (.iload_n 1, 1) := dd_at dd_Mo_run 2 rfl
theorem d_Mo_run_3 : decode prog_14_method_75_code 3 = .ok (.bipush (26), 2) := dd_at dd_Mo_run 3 rfl
theorem d_Mo_run_5 : decode prog_14_method_75_code 5 = .ok (.if_icmp .ge (16), 3) := dd_at dd_Mo_run 4 rfl
theorem d_Mo_run_8 : decode prog_14_method_75_code 8 = .ok (.aload_n 0, 1) := dd_at dd_Mo_run 5 rfl
theorem d_Mo_run_9 : decode prog_14_method_75_code 9 = .ok (.getfield 101, 3) := dd_at dd_Mo_run 6 rfl
theorem d_Mo_run_12 : decode prog_14_method_75_code 12 = .ok (.iload_n 1, 1) := dd_at dd_Mo_run 7 rfl
theorem d_Mo_run_13 : decode prog_14_method_75_code 13 = .ok (.dconst 0, 1) := dd_at dd_Mo_run 8 rfl
theorem d_Mo_run_14 : decode prog_14_method_75_code 14 = .ok (.dastore, 1) := dd_at dd_Mo_run 9 rfl
theorem d_Mo_run_15 : decode prog_14_method_75_code 15 = .ok (.iinc 1 (1), 3) := dd_at dd_Mo_run 10 rfl
theorem d_Mo_run_18 : decode prog_14_method_75_code 18 = .ok (.goto (-16), 3) := dd_at dd_Mo_run 11 rfl
theorem d_Mo_run_21 : decode prog_14_method_75_code 21 = .ok (.iconst 0, 1) := dd_at dd_Mo_run 12 rfl
theorem d_Mo_run_22 : decode prog_14_method_75_code 22 = .ok (.istore_n 1, 1) := dd_at dd_Mo_run 13 rfl
theorem d_Mo_run_23 : decode prog_14_method_75_code 23 = .ok (.iload_n 1, 1) := dd_at dd_Mo_run 14 rfl
theorem d_Mo_run_24 : decode prog_14_method_75_code 24 = .ok (.iconst 3, 1) := dd_at dd_Mo_run 15 rfl
theorem d_Mo_run_25 : decode prog_14_method_75_code 25 = .ok (.if_icmp .ge (23), 3) := dd_at dd_Mo_run 16 rfl
theorem d_Mo_run_28 : decode prog_14_method_75_code 28 = .ok (.aload_n 0, 1) := dd_at dd_Mo_run 17 rfl
theorem d_Mo_run_29 : decode prog_14_method_75_code 29 = .ok (.iload_n 1, 1) := dd_at dd_Mo_run 18 rfl
theorem d_Mo_run_30 : decode prog_14_method_75_code 30 = .ok (.iconst 0, 1) := dd_at dd_Mo_run 19 rfl
theorem d_Mo_run_31 : decode prog_14_method_75_code 31 = .ok (.iconst 0, 1) := dd_at dd_Mo_run 20 rfl
theorem d_Mo_run_32 : decode prog_14_method_75_code 32 = .ok (.invokevirtual 433, 3) := dd_at dd_Mo_run 21 rfl
theorem d_Mo_run_35 : decode prog_14_method_75_code 35 = .ok (.aload_n 0, 1) := dd_at dd_Mo_run 22 rfl
theorem d_Mo_run_36 : decode prog_14_method_75_code 36 = .ok (.getfield 125, 3) := dd_at dd_Mo_run 23 rfl
theorem d_Mo_run_39 : decode prog_14_method_75_code 39 = .ok (.iload_n 1, 1) := dd_at dd_Mo_run 24 rfl
theorem d_Mo_run_40 : decode prog_14_method_75_code 40 = .ok (.iconst (-1), 1) := dd_at dd_Mo_run 25 rfl
theorem d_Mo_run_41 : decode prog_14_method_75_code 41 = .ok (.iastore, 1) := dd_at dd_Mo_run 26 rfl
theorem d_Mo_run_42 : decode prog_14_method_75_code 42 = .ok (.iinc 1 (1), 3) := dd_at dd_Mo_run 27 rfl
theorem d_Mo_run_45 : decode prog_14_method_75_code 45 = .ok (.goto (-22), 3) := dd_at dd_Mo_run 28 rfl
theorem d_Mo_run_48 : decode prog_14_method_75_code 48 = .ok (.aload_n 0, 1) := dd_at dd_Mo_run 29 rfl
theorem d_Mo_run_49 : decode prog_14_method_75_code 49 = .ok (.iconst 0, 1) := dd_at dd_Mo_run 30 rfl
theorem d_Mo_run_50 : decode prog_14_method_75_code 50 = .ok (.putfield 61, 3) := dd_at dd_Mo_run 31 rfl
theorem d_Mo_run_53 : decode prog_14_method_75_code 53 = .ok (.aload_n 0, 1) := dd_at dd_Mo_run 32 rfl
theorem d_Mo_run_54 : decode prog_14_method_75_code 54 = .ok (.iconst (-1), 1) := dd_at dd_Mo_run 33 rfl
theorem d_Mo_run_55 : decode prog_14_method_75_code 55 = .ok (.putfield 64, 3) := dd_at dd_Mo_run 34 rfl
theorem d_Mo_run_58 : decode prog_14_method_75_code 58 = .ok (.aload_n 0, 1) := dd_at dd_Mo_run 35 rfl
theorem d_Mo_run_59 : decode prog_14_method_75_code 59 = .ok (.iconst 0, 1) := dd_at dd_Mo_run 36 rfl
theorem d_Mo_run_60 : decode prog_14_method_75_code 60 = .ok (.putfield 67, 3) := dd_at dd_Mo_run 37 rfl
theorem d_Mo_run_63 : decode prog_14_method_75_code 63 = .ok (.aload_n 0, 1) := dd_at dd_Mo_run 38 rfl
theorem d_Mo_run_64 : decode prog_14_method_75_code 64 = .ok (.iconst 0, 1) := dd_at dd_Mo_run 39 rfl
theorem d_Mo_run_65 : decode prog_14_method_75_code 65 = .ok (.putfield 70, 3) := dd_at dd_Mo_run 40 rfl
theorem d_Mo_run_68 : decode prog_14_method_75_code 68 = .ok (.aload_n 0, 1) := dd_at dd_Mo_run 41 rfl
theorem d_Mo_run_69 : decode prog_14_method_75_code 69 = .ok (.iconst 0, 1) := dd_at dd_Mo_run 42 rfl
theorem d_Mo_run_70 : decode prog_14_method_75_code 70 = .ok (.putfield 79, 3) := dd_at dd_Mo_run 43 rfl
theorem d_Mo_run_73 : decode prog_14_method_75_code 73 = .ok (.aload_n 0, 1) := dd_at dd_Mo_run 44 rfl
theorem d_Mo_run_74 : decode prog_14_method_75_code 74 = .ok (.iconst 0, 1) := dd_at dd_Mo_run 45 rfl
theorem d_Mo_run_75 : decode prog_14_method_75_code 75 = .ok (.putfield 82, 3) := dd_at dd_Mo_run 46 rfl
theorem d_Mo_run_78 : decode prog_14_method_75_code 78 = .ok (.aload_n 0, 1) := dd_at dd_Mo_run 47 rfl
theorem d_Mo_run_79 : decode prog_14_method_75_code 79 = .ok (.iconst 0, 1) := dd_at dd_Mo_run 48 rfl
theorem d_Mo_run_80 : decode prog_14_method_75_code 80 = .ok (.putfield 94, 3) := dd_at dd_Mo_run 49 rfl
theorem d_Mo_run_83 : decode prog_14_method_75_code 83 = .ok (.aload_n 0, 1) := dd_at dd_Mo_run 50 rfl
theorem d_Mo_run_84 : decode prog_14_method_75_code 84 = .ok (.invokevirtual 440, 3) := dd_at dd_Mo_run 51 rfl
theorem d_Mo_run_87 : decode prog_14_method_75_code 87 = .ok (.aload_n 0, 1) := dd_at dd_Mo_run 52 rfl
theorem d_Mo_run_88 : decode prog_14_method_75_code 88 = .ok (.iconst 0, 1) := dd_at dd_Mo_run 53 rfl
theorem d_Mo_run_89 : decode prog_14_method_75_code 89 = .ok (.invokevirtual 389, 3) := dd_at dd_Mo_run 54 rfl
theorem d_Mo_run_92 : decode prog_14_method_75_code 92 = .ok (.istore_n 1, 1) := dd_at dd_Mo_run 55 rfl
theorem d_Mo_run_93 : decode prog_14_method_75_code 93 = .ok (.iload_n 1, 1) := dd_at dd_Mo_run 56 rfl
theorem d_Mo_run_94 : decode prog_14_method_75_code 94 = .ok (.ifCond .lt (57), 3) := dd_at dd_Mo_run 57 rfl
theorem d_Mo_run_97 : decode prog_14_method_75_code 97 = .ok (.aload_n 0, 1) := dd_at dd_Mo_run 58 rfl
theorem d_Mo_run_98 : decode prog_14_method_75_code 98 = .ok (.getfield 94, 3) := dd_at dd_Mo_run 59 rfl
theorem d_Mo_run_101 : decode prog_14_method_75_code 101 = .ok (.ifCond .ne (50), 3) := dd_at dd_Mo_run 60 rfl
theorem d_Mo_run_104 : decode prog_14_method_75_code 104 = .ok (.aload_n 0, 1) := dd_at dd_Mo_run 61 rfl
theorem d_Mo_run_105 : decode prog_14_method_75_code 105 = .ok (.getfield 61, 3) := dd_at dd_Mo_run 62 rfl
theorem d_Mo_run_108 : decode prog_14_method_75_code 108 = .ok (.sipush (300), 3) := dd_at dd_Mo_run 63 rfl
theorem d_Mo_run_111 : decode prog_14_method_75_code 111 = .ok (.if_icmp .ne (11), 3) := dd_at dd_Mo_run 64 rfl
theorem d_Mo_run_114 : decode prog_14_method_75_code 114 = .ok (.aload_n 0, 1) := dd_at dd_Mo_run 65 rfl
theorem d_Mo_run_115 : decode prog_14_method_75_code 115 = .ok (.iconst 2, 1) := dd_at dd_Mo_run 66 rfl
theorem d_Mo_run_116 : decode prog_14_method_75_code 116 = .ok (.putfield 94, 3) := dd_at dd_Mo_run 67 rfl
theorem d_Mo_run_119 : decode prog_14_method_75_code 119 = .ok (.goto (-26), 3) := dd_at dd_Mo_run 68 rfl
theorem d_Mo_run_122 : decode prog_14_method_75_code 122 = .ok (.aload_n 0, 1) := dd_at dd_Mo_run 69 rfl
theorem d_Mo_run_123 : decode prog_14_method_75_code 123 = .ok (.dup, 1) := dd_at dd_Mo_run 70 rfl
theorem d_Mo_run_124 : decode prog_14_method_75_code 124 = .ok (.getfield 61, 3) := dd_at dd_Mo_run 71 rfl
theorem d_Mo_run_127 : decode prog_14_method_75_code 127 = .ok (.iconst 1, 1) := dd_at dd_Mo_run 72 rfl
theorem d_Mo_run_128 : decode prog_14_method_75_code 128 = .ok (.iadd, 1) := dd_at dd_Mo_run 73 rfl
theorem d_Mo_run_129 : decode prog_14_method_75_code 129 = .ok (.putfield 61, 3) := dd_at dd_Mo_run 74 rfl
theorem d_Mo_run_132 : decode prog_14_method_75_code 132 = .ok (.aload_n 0, 1) := dd_at dd_Mo_run 75 rfl
theorem d_Mo_run_133 : decode prog_14_method_75_code 133 = .ok (.aload_n 0, 1) := dd_at dd_Mo_run 76 rfl
theorem d_Mo_run_134 : decode prog_14_method_75_code 134 = .ok (.getfield 42, 3) := dd_at dd_Mo_run 77 rfl
theorem d_Mo_run_137 : decode prog_14_method_75_code 137 = .ok (.iload_n 1, 1) := dd_at dd_Mo_run 78 rfl
theorem d_Mo_run_138 : decode prog_14_method_75_code 138 = .ok (.iaload, 1) := dd_at dd_Mo_run 79 rfl
theorem d_Mo_run_139 : decode prog_14_method_75_code 139 = .ok (.putfield 64, 3) := dd_at dd_Mo_run 80 rfl
theorem d_Mo_run_142 : decode prog_14_method_75_code 142 = .ok (.aload_n 0, 1) := dd_at dd_Mo_run 81 rfl
theorem d_Mo_run_143 : decode prog_14_method_75_code 143 = .ok (.iload_n 1, 1) := dd_at dd_Mo_run 82 rfl
theorem d_Mo_run_144 : decode prog_14_method_75_code 144 = .ok (.invokevirtual 443, 3) := dd_at dd_Mo_run 83 rfl
theorem d_Mo_run_147 : decode prog_14_method_75_code 147 = .ok (.istore_n 1, 1) := dd_at dd_Mo_run 84 rfl
theorem d_Mo_run_148 : decode prog_14_method_75_code 148 = .ok (.goto (-55), 3) := dd_at dd_Mo_run 85 rfl
theorem d_Mo_run_151 : decode prog_14_method_75_code 151 = .ok (.aload_n 0, 1) := dd_at dd_Mo_run 86 rfl
theorem d_Mo_run_152 : decode prog_14_method_75_code 152 = .ok (.aload_n 0, 1) := dd_at dd_Mo_run 87 rfl
theorem d_Mo_run_153 : decode prog_14_method_75_code 153 = .ok (.getfield 73, 3) := dd_at dd_Mo_run 88 rfl
theorem d_Mo_run_156 : decode prog_14_method_75_code 156 = .ok (.aload_n 0, 1) := dd_at dd_Mo_run 89 rfl
theorem d_Mo_run_157 : decode prog_14_method_75_code 157 = .ok (.getfield 70, 3) := dd_at dd_Mo_run 90 rfl
theorem d_Mo_run_160 : decode prog_14_method_75_code 160 = .ok (.isub, 1) := dd_at dd_Mo_run 91 rfl
theorem d_Mo_run_161 : decode prog_14_method_75_code 161 = .ok (.putfield 76, 3) := dd_at dd_Mo_run 92 rfl
theorem d_Mo_run_164 : decode prog_14_method_75_code 164 = .ok (.aload_n 0, 1) := dd_at dd_Mo_run 93 rfl
theorem d_Mo_run_165 : decode prog_14_method_75_code 165 = .ok (.getfield 94, 3) := dd_at dd_Mo_run 94 rfl
theorem d_Mo_run_168 : decode prog_14_method_75_code 168 = .ok (.ifCond .ne (12), 3) := dd_at dd_Mo_run 95 rfl
theorem d_Mo_run_171 : decode prog_14_method_75_code 171 = .ok (.aload_n 0, 1) := dd_at dd_Mo_run 96 rfl
theorem d_Mo_run_172 : decode prog_14_method_75_code 172 = .ok (.aload_n 0, 1) := dd_at dd_Mo_run 97 rfl
theorem d_Mo_run_173 : decode prog_14_method_75_code 173 = .ok (.getfield 61, 3) := dd_at dd_Mo_run 98 rfl
theorem d_Mo_run_176 : decode prog_14_method_75_code 176 = .ok (.invokevirtual 153, 3) := dd_at dd_Mo_run 99 rfl
theorem d_Mo_run_179 : decode prog_14_method_75_code 179 = .ok (.ireturn, 1) := dd_at dd_Mo_run 100 rfl
theorem d_Mo_run_180 : decode prog_14_method_75_code 180 = .ok (.aload_n 0, 1) := dd_at dd_Mo_run 101 rfl
theorem d_Mo_run_181 : decode prog_14_method_75_code 181 = .ok (.dup, 1) := dd_at dd_Mo_run 102 rfl
theorem d_Mo_run_182 : decode prog_14_method_75_code 182 = .ok (.getfield 91, 3) := dd_at dd_Mo_run 103 rfl
theorem d_Mo_run_185 : decode prog_14_method_75_code 185 = .ok (.iconst 1, 1) := dd_at dd_Mo_run 104 rfl
theorem d_Mo_run_186 : decode prog_14_method_75_code 186 = .ok (.iadd, 1) := dd_at dd_Mo_run 105 rfl
theorem d_Mo_run_187 : decode prog_14_method_75_code 187 = .ok (.putfield 91, 3) := dd_at dd_Mo_run 106 rfl
theorem d_Mo_run_190 : decode prog_14_method_75_code 190 = .ok (.aload_n 0, 1) := dd_at dd_Mo_run 107 rfl
theorem d_Mo_run_191 : decode prog_14_method_75_code 191 = .ok (.aload_n 0, 1) := dd_at dd_Mo_run 108 rfl
theorem d_Mo_run_192 : decode prog_14_method_75_code 192 = .ok (.getfield 94, 3) := dd_at dd_Mo_run 109 rfl
theorem d_Mo_run_195 : decode prog_14_method_75_code 195 = .ok (.invokevirtual 149, 3) := dd_at dd_Mo_run 110 rfl
theorem d_Mo_run_198 : decode prog_14_method_75_code 198 = .ok (.ireturn, 1) := dd_at dd_Mo_run 111 rfl
def ld_Mo_printed : List (Nat × Instr × Nat) := [(0, .iload_n 1, 1), (1, .ifCond .lt (17), 3), (4, .iload_n 1, 1), (5, .aload_n 0, 1), (6, .getfield 67, 3), (9, .if_icmp .ge (9), 3), (12, .iload_n 1, 1), (13, .bipush (39), 2), (15, .if_icmp .le (10), 3), (18, .aload_n 0, 1), (19, .iconst 1, 1), (20, .putfield 7, 3), (23, .dconst 0, 1), (24, .dreturn, 1), (25, .aload_n 0, 1), (26, .iconst 0, 1), (27, .putfield 7, 3), (30, .aload_n 0, 1), (31, .getfield 97, 3), (34, .iload_n 1, 1), (35, .daload, 1), (36, .dreturn, 1)]
theorem dd_Mo_printed : (ld_Mo_printed).all (dOK prog_14_method_76_code) = true := by decide +kernel
theorem d_Mo_printed_0 : decode prog_14_method_76_code 0 = .ok (.iload_n 1, 1) := dd_at dd_Mo_printed 0 rfl
theorem d_Mo_printed_1 : decode prog_14_method_76_code 1 = .ok (.ifCond .lt (17), 3) := dd_at dd_Mo_printed 1 rfl
theorem d_Mo_printed_4 : decode prog_14_method_76_code 4 = .ok (.iload_n 1, 1) := dd_at dd_Mo_printed 2 rfl
theorem d_Mo_printed_5 : decode prog_14_method_76_code 5 = .ok (.aload_n 0, 1) := dd_at dd_Mo_printed 3 rfl
theorem d_Mo_printed_6 : decode prog_14_method_76_code 6 = .ok (.getfield 67, 3) := dd_at dd_Mo_printed 4 rfl
theorem d_Mo_printed_9 : decode prog_14_method_76_code 9 = .ok (.if_icmp .ge (9), 3) := dd_at dd_Mo_printed 5 rfl
theorem d_Mo_printed_12 : decode prog_14_method_76_code 12 = .ok (.iload_n 1, 1) := dd_at dd_Mo_printed 6 rfl
theorem d_Mo_printed_13 : decode prog_14_method_76_code 13 = .ok (.bipush (39), 2) := dd_at dd_Mo_printed 7 rfl
theorem d_Mo_printed_15 : decode prog_14_method_76_code 15 = .ok (.if_icmp .le (10), 3) := dd_at dd_Mo_printed 8 rfl
theorem d_Mo_printed_18 : decode prog_14_method_76_code 18 = .ok (.aload_n 0, 1) := dd_at dd_Mo_printed 9 rfl
theorem d_Mo_printed_19 : decode prog_14_method_76_code 19 = .ok (.iconst 1, 1) := dd_at dd_Mo_printed 10 rfl
theorem d_Mo_printed_20 : decode prog_14_method_76_code 20 = .ok (.putfield 7, 3) := dd_at dd_Mo_printed 11 rfl
theorem d_Mo_printed_23 : decode prog_14_method_76_code 23 = .ok (.dconst 0, 1) := dd_at dd_Mo_printed 12 rfl
theorem d_Mo_printed_24 : decode prog_14_method_76_code 24 = .ok (.dreturn, 1) := dd_at dd_Mo_printed 13 rfl
theorem d_Mo_printed_25 : decode prog_14_method_76_code 25 = .ok (.aload_n 0, 1) := dd_at dd_Mo_printed 14 rfl
theorem d_Mo_printed_26 : decode prog_14_method_76_code 26 = .ok (.iconst 0, 1) := dd_at dd_Mo_printed 15 rfl
theorem d_Mo_printed_27 : decode prog_14_method_76_code 27 = .ok (.putfield 7, 3) := dd_at dd_Mo_printed 16 rfl
theorem d_Mo_printed_30 : decode prog_14_method_76_code 30 = .ok (.aload_n 0, 1) := dd_at dd_Mo_printed 17 rfl
theorem d_Mo_printed_31 : decode prog_14_method_76_code 31 = .ok (.getfield 97, 3) := dd_at dd_Mo_printed 18 rfl
theorem d_Mo_printed_34 : decode prog_14_method_76_code 34 = .ok (.iload_n 1, 1) := dd_at dd_Mo_printed 19 rfl
theorem d_Mo_printed_35 : decode prog_14_method_76_code 35 = .ok (.daload, 1) := dd_at dd_Mo_printed 20 rfl
theorem d_Mo_printed_36 : decode prog_14_method_76_code 36 = .ok (.dreturn, 1) := dd_at dd_Mo_printed 21 rfl
def ld_Mo_variable1 : List (Nat × Instr × Nat) := [(0, .iload_n 1, 1), (1, .ifCond .lt (20), 3), (4, .iload_n 1, 1), (5, .bipush (25), 2), (7, .if_icmp .gt (14), 3), (10, .aload_n 0, 1), (11, .bipush (65), 2), (13, .iload_n 1, 1), (14, .iadd, 1), (15, .invokevirtual 241, 3), (18, .ifCond .eq (10), 3), (21, .aload_n 0, 1), (22, .iconst 1, 1), (23, .putfield 7, 3), (26, .dconst 0, 1), (27, .dreturn, 1), (28, .aload_n 0, 1), (29, .iconst 0, 1), (30, .putfield 7, 3), (33, .aload_n 0, 1), (34, .getfield 101, 3), (37, .iload_n 1, 1), (38, .daload, 1), (39, .dreturn, 1)]
theorem dd_Mo_variable1 : (ld_Mo_variable1).all (dOK prog_14_method_77_code) = true := by decide +kernel
theorem d_Mo_variable1_0 : decode prog_14_method_77_code 0 = .ok (.iload_n 1, 1) := dd_at dd_Mo_variable1 0 rfl
theorem d_Mo_variable1_1 : decode prog_14_method_77_code 1 = .ok (.ifCond .lt (20), 3) := dd_at dd_Mo_variable1 1 rfl
theorem d_Mo_variable1_4 : decode prog_14_method_77_code 4 = .ok (.iload_n 1, 1) := dd_at dd_Mo_variable1 2 rfl
theorem d_Mo_variable1_5 : decode prog_14_method_77_code 5 = .ok (.bipush (25), 2) := dd_at dd_Mo_variable1 3 rfl
theorem d_Mo_variable1_7 : decode prog_14_method_77_code 7 = .ok (.if_icmp .gt (14), 3) := dd_at dd_Mo_variable1 4 rfl
theorem d_Mo_variable1_10 : decode prog_14_method_77_code 10 = .ok (.aload_n 0, 1) := dd_at dd_Mo_variable1 5 rfl
theorem d_Mo_variable1_11 : decode prog_14_method_77_code 11 = .ok (.bipush (65), 2) := dd_at dd_Mo_variable1 6 rfl
theorem d_Mo_variable1_13 : decode prog_14_method_77_code 13 = .ok (.iload_n 1, 1) := dd_at dd_Mo_variable1 7 rfl
theorem d_Mo_variable1_14 : decode prog_14_method_77_code 14 = .ok (.iadd, 1) := dd_at dd_Mo_variable1 8 rfl
theorem d_Mo_variable1_15 : decode prog_14_method_77_code 15 = .ok (.invokevirtual 241, 3) := dd_at dd_Mo_variable1 9 rfl
theorem d_Mo_variable1_18 : decode prog_14_method_77_code 18 = .ok (.ifCond .eq (10), 3) := dd_at dd_Mo_variable1 10 rfl
theorem d_Mo_variable1_21 : decode prog_14_method_77_code 21 = .ok (.aload_n 0, 1) := dd_at dd_Mo_variable1 11 rfl
theorem d_Mo_variable1_22 : decode prog_14_method_77_code 22 = .ok (.iconst 1, 1) := dd_at dd_Mo_variable1 12 rfl
theorem d_Mo_variable1_23 : decode prog_14_method_77_code 23 = .ok (.putfield 7, 3) := dd_at dd_Mo_variable1 13 rfl
theorem d_Mo_variable1_26 : decode prog_14_method_77_code 26 = .ok (.dconst 0, 1) := dd_at dd_Mo_variable1 14 rfl
theorem d_Mo_variable1_27 : decode prog_14_method_77_code 27 = .ok (.dreturn, 1) := dd_at dd_Mo_variable1 15 rfl
theorem d_Mo_variable1_28 : decode prog_14_method_77_code 28 = .ok (.aload_n 0, 1) := dd_at dd_Mo_variable1 16 rfl
theorem d_Mo_variable1_29 : decode prog_14_method_77_code 29 = .ok (.iconst 0, 1) := dd_at dd_Mo_variable1 17 rfl
theorem d_Mo_variable1_30 : decode prog_14_method_77_code 30 = .ok (.putfield 7, 3) := dd_at dd_Mo_variable1 18 rfl
theorem d_Mo_variable1_33 : decode prog_14_method_77_code 33 = .ok (.aload_n 0, 1) := dd_at dd_Mo_variable1 19 rfl
theorem d_Mo_variable1_34 : decode prog_14_method_77_code 34 = .ok (.getfield 101, 3) := dd_at dd_Mo_variable1 20 rfl
theorem d_Mo_variable1_37 : decode prog_14_method_77_code 37 = .ok (.iload_n 1, 1) := dd_at dd_Mo_variable1 21 rfl
theorem d_Mo_variable1_38 : decode prog_14_method_77_code 38 = .ok (.daload, 1) := dd_at dd_Mo_variable1 22 rfl
theorem d_Mo_variable1_39 : decode prog_14_method_77_code 39 = .ok (.dreturn, 1) := dd_at dd_Mo_variable1 23 rfl
def ld_Mo_element : List (Nat × Instr × Nat) := [(0, .aload_n 0, 1), (1, .iload_n 1, 1), (2, .ifCond .lt (8), 3), (5, .iload_n 1, 1), (6, .iconst 2, 1), (7, .if_icmp .le (7), 3), (10, .iconst 1, 1), (11, .goto (38), 3), (14, .iload_n 2, 1), (15, .iconst 1, 1), (16, .if_icmp .lt (28), 3), (19, .iload_n 2, 1), (20, .aload_n 0, 1), (21, .getfield 128, 3), (24, .iload_n 1, 1), (25, .iaload, 1), (26, .if_icmp .gt (18), 3), (29, .iload_n 3, 1), (30, .iconst 1, 1), (31, .if_icmp .lt (13), 3), (34, .iload_n 3, 1), (35, .aload_n 0, 1), (36, .getfield 131, 3), (39, .iload_n 1, 1), (40, .iaload, 1), (41, .if_icmp .le (7), 3), (44, .iconst 2, 1), (45, .goto (4), 3), (48, .iconst 0, 1), (49, .putfield 7, 3), (52, .aload_n 0, 1), (53, .getfield 7, 3), (56, .ifCond .ne (26), 3), (59, .aload_n 0, 1), (60, .getfield 119, 3), (63, .iload_n 1, 1), (64, .bipush (36), 2), (66, .imul, 1), (67, .iload_n 2, 1), (68, .iconst 1, 1), (69, .isub, 1), (70, .bipush (6), 2), (72, .imul, 1), (73, .iadd, 1), (74, .iload_n 3, 1), (75, .iadd, 1), (76, .iconst 1, 1), (77, .isub, 1), (78, .daload, 1), (79, .goto (4), 3), (82, .dconst 0, 1), (83, .dreturn, 1)]
theorem dd_Mo_element : (ld_Mo_element).all (dOK prog_14_method_78_code) = true := by decide +kernel
theorem d_Mo_element_0 : decode prog_14_method_78_code 0 = .ok (.aload_n 0, 1) := dd_at dd_Mo_element 0 rfl
theorem d_Mo_element_1 : decode prog_14_method_78_code 1 = .ok (.iload_n 1, 1) := dd_at dd_Mo_element 1 rfl
theorem d_Mo_element_2 : decode prog_14_method_78_code 2 = .ok (.ifCond .lt (8), 3) := dd_at dd_Mo_element 2 rfl
theorem d_Mo_element_5 : decode prog_14_method_78_code 5 = .ok (.iload_n 1, 1) := dd_at dd_Mo_element 3 rfl
theorem d_Mo_element_6 : decode prog_14_method_78_code 6 = .ok (.iconst 2, 1) := dd_at dd_Mo_element 4 rfl
theorem d_Mo_element_7 : decode prog_14_method_78_code 7 = .ok (.if_icmp .le (7), 3) := dd_at dd_Mo_element 5 rfl
theorem d_Mo_element_10 : decode prog_14_method_78_code 10 = .ok (.iconst 1, 1) := dd_at dd_Mo_element 6 rfl
theorem d_Mo_element_11 : decode prog_14_method_78_code 11 = .ok (.goto (38), 3) := dd_at dd_Mo_element 7 rfl
theorem d_Mo_element_14 : decode prog_14_method_78_code 14 = .ok (.iload_n 2, 1) := dd_at dd_Mo_element 8 rfl
theorem d_Mo_element_15 : decode prog_14_method_78_code 15 = .ok (.iconst 1, 1) := dd_at dd_Mo_element 9 rfl
theorem d_Mo_element_16 : decode prog_14_method_78_code 16 = .ok (.if_icmp .lt (28), 3) := dd_at dd_Mo_element 10 rfl
theorem d_Mo_element_19 : decode prog_14_method_78_code 19 = .ok (.iload_n 2, 1) := dd_at dd_Mo_element 11 rfl
theorem d_Mo_element_20 : decode prog_14_method_78_code 20 = .ok (.aload_n 0, 1) := dd_at dd_Mo_element 12 rfl
theorem d_Mo_element_21 : decode prog_14_method_78_code 21 = .ok (.getfield 128, 3) := dd_at dd_Mo_element 13 rfl
theorem d_Mo_element_24 : decode prog_14_method_78_code 24 = .ok (.iload_n 1, 1) := dd_at dd_Mo_element 14 rfl
theorem d_Mo_element_25 : decode prog_14_method_78_code 25 = .ok (.iaload, 1) := dd_at dd_Mo_element 15 rfl
theorem d_Mo_element_26 : decode prog_14_method_78_code 26 = .ok (.if_icmp .gt (18), 3) := dd_at dd_Mo_element 16 rfl
theorem d_Mo_element_29 : decode prog_14_method_78_code 29 = .ok (.iload_n 3, 1) := dd_at dd_Mo_element 17 rfl
theorem d_Mo_element_30 : decode prog_14_method_78_code 30 = .ok (.iconst 1, 1) := dd_at dd_Mo_element 18 rfl
theorem d_Mo_element_31 : decode prog_14_method_78_code 31 = .ok (.if_icmp .lt (13), 3) := dd_at dd_Mo_element 19 rfl
theorem d_Mo_element_34 : decode prog_14_method_78_code 34 = .ok (.iload_n 3, 1) := dd_at dd_Mo_element 20 rfl
theorem d_Mo_element_35 : decode prog_14_method_78_code 35 = .ok (.aload_n 0, 1) := dd_at dd_Mo_element 21 rfl
theorem d_Mo_element_36 : decode prog_14_method_78_code 36 = .ok (.getfield 131, 3) := dd_at dd_Mo_element 22 rfl
theorem d_Mo_element_39 : decode prog_14_method_78_code 39 = .ok (.iload_n 1, 1) := dd_at dd_Mo_element 23 rfl
theorem d_Mo_element_40 : decode prog_14_method_78_code 40 = .ok (.iaload, 1) := dd_at dd_Mo_element 24 rfl
theorem d_Mo_element_41 : decode prog_14_method_78_code 41 = .ok (.if_icmp .le (7), 3) := dd_at dd_Mo_element 25 rfl
theorem d_Mo_element_44 : decode prog_14_method_78_code 44 = .ok (.iconst 2, 1) := dd_at dd_Mo_element 26 rfl
theorem d_Mo_element_45 : decode prog_14_method_78_code 45 = .ok (.goto (4), 3) := dd_at dd_Mo_element 27 rfl
theorem d_Mo_element_48 : decode prog_14_method_78_code 48 = .ok (.iconst 0, 1) := dd_at dd_Mo_element 28 rfl
theorem d_Mo_element_49 : decode prog_14_method_78_code 49 = .ok (.putfield 7, 3) := dd_at dd_Mo_element 29 rfl
theorem d_Mo_element_52 : decode prog_14_method_78_code 52 = .ok (.aload_n 0, 1) := dd_at dd_Mo_element 30 rfl
theorem d_Mo_element_53 : decode prog_14_method_78_code 53 = .ok (.getfield 7, 3) := dd_at dd_Mo_element 31 rfl
theorem d_Mo_element_56 : decode prog_14_method_78_code 56 = .ok (.ifCond .ne (26), 3) := dd_at dd_Mo_element 32 rfl
theorem d_Mo_element_59 : decode prog_14_method_78_code 59 = .ok (.aload_n 0, 1) := dd_at dd_Mo_element 33 rfl
theorem d_Mo_element_60 : decode prog_14_method_78_code 60 = .ok (.getfield 119, 3) := dd_at dd_Mo_element 34 rfl
theorem d_Mo_element_63 : decode prog_14_method_78_code 63 = .ok (.iload_n 1, 1) := dd_at dd_Mo_element 35 rfl
theorem d_Mo_element_64 : decode prog_14_method_78_code 64 = .ok (.bipush (36), 2) := dd_at dd_Mo_element 36 rfl
theorem d_Mo_element_66 : decode prog_14_method_78_code 66 = .ok (.imul, 1) := dd_at dd_Mo_element 37 rfl
theorem d_Mo_element_67 : decode prog_14_method_78_code 67 = .ok (.iload_n 2, 1) := dd_at dd_Mo_element 38 rfl
theorem d_Mo_element_68 : decode prog_14_method_78_code 68 = .ok (.iconst 1, 1) := dd_at dd_Mo_element 39 rfl
theorem d_Mo_element_69 : decode prog_14_method_78_code 69 = .ok (.isub, 1) := dd_at dd_Mo_element 40 rfl
theorem d_Mo_element_70 : decode prog_14_method_78_code 70 = .ok (.bipush (6), 2) := dd_at dd_Mo_element 41 rfl
theorem d_Mo_element_72 : decode prog_14_method_78_code 72 = .ok (.imul, 1) := dd_at dd_Mo_element 42 rfl
theorem d_Mo_element_73 : decode prog_14_method_78_code 73 = .ok (.iadd, 1) := dd_at dd_Mo_element 43 rfl
theorem d_Mo_element_74 : decode prog_14_method_78_code 74 = .ok (.iload_n 3, 1) := dd_at dd_Mo_element 44 rfl
theorem d_Mo_element_75 : decode prog_14_method_78_code 75 = .ok (.iadd, 1) := dd_at dd_Mo_element 45 rfl
theorem d_Mo_element_76 : decode prog_14_method_78_code 76 = .ok (.iconst 1, 1) := dd_at dd_Mo_element 46 rfl
theorem d_Mo_element_77 : decode prog_14_method_78_code 77 = .ok (.isub, 1) := dd_at dd_Mo_element 47 rfl
theorem d_Mo_element_78 : decode prog_14_method_78_code 78 = .ok (.daload, 1) := dd_at dd_Mo_element 48 rfl
theorem d_Mo_element_79 : decode prog_14_method_78_code 79 = .ok (.goto (4), 3) := dd_at dd_Mo_element 49 rfl
theorem d_Mo_element_82 : decode prog_14_method_78_code 82 = .ok (.dconst 0, 1) := dd_at dd_Mo_element 50 rfl
theorem d_Mo_element_83 : decode prog_14_method_78_code 83 = .ok (.dreturn, 1) := dd_at dd_Mo_element 51 rfl
def ld_Mo_at : List (Nat × Instr × Nat) := [(0, .aload_n 0, 1), (1, .aload_n 0, 1), (2, .getfield 64, 3), (5, .invokevirtual 153, 3), (8, .ireturn, 1)]
theorem dd_Mo_at : (ld_Mo_at).all (dOK prog_14_method_79_code) = true := by decide +kernel
theorem d_Mo_at_0 : decode prog_14_method_79_code 0 = .ok (.aload_n 0, 1) := dd_at dd_Mo_at 0 rfl
theorem d_Mo_at_1 : decode prog_14_method_79_code 1 = .ok (.aload_n 0, 1) := dd_at dd_Mo_at 1 rfl
theorem d_Mo_at_2 : decode prog_14_method_79_code 2 = .ok (.getfield 64, 3) := dd_at dd_Mo_at 2 rfl
theorem d_Mo_at_5 : decode prog_14_method_79_code 5 = .ok (.invokevirtual 153, 3) := dd_at dd_Mo_at 3 rfl
theorem d_Mo_at_8 : decode prog_14_method_79_code 8 = .ok (.ireturn, 1) := dd_at dd_Mo_at 4 rfl
def ld_Mo_most : List (Nat × Instr × Nat) := [(0, .iconst (-1), 1), (1, .istore_n 1, 1), (2, .iconst 0, 1), (3, .istore_n 2, 1), (4, .iload_n 2, 1), (5, .bipush (24), 2), (7, .if_icmp .ge (35), 3), (10, .aload_n 0, 1), (11, .getfield 42, 3), (14, .iload_n 2, 1), (15, .iaload, 1), (16, .ifCond .le (20), 3), (19, .aload_n 0, 1), (20, .getfield 42, 3), (23, .iload_n 2, 1), (24, .iaload, 1), (25, .iload_n 1, 1), (26, .if_icmp .le (10), 3), (29, .aload_n 0, 1), (30, .getfield 42, 3), (33, .iload_n 2, 1), (34, .iaload, 1), (35, .istore_n 1, 1), (36, .iinc 2 (1), 3), (39, .goto (-35), 3), (42, .iload_n 1, 1), (43, .ireturn, 1)]
theorem dd_Mo_most : (ld_Mo_most).all (dOK prog_14_method_80_code) = true := by decide +kernel
theorem d_Mo_most_0 : decode prog_14_method_80_code 0 = .ok (.iconst (-1), 1) := dd_at dd_Mo_most 0 rfl
theorem d_Mo_most_1 : decode prog_14_method_80_code 1 = .ok (.istore_n 1, 1) := dd_at dd_Mo_most 1 rfl
theorem d_Mo_most_2 : decode prog_14_method_80_code 2 = .ok (.iconst 0, 1) := dd_at dd_Mo_most 2 rfl
theorem d_Mo_most_3 : decode prog_14_method_80_code 3 = .ok (.istore_n 2, 1) := dd_at dd_Mo_most 3 rfl
theorem d_Mo_most_4 : decode prog_14_method_80_code 4 = .ok (.iload_n 2, 1) := dd_at dd_Mo_most 4 rfl
theorem d_Mo_most_5 : decode prog_14_method_80_code 5 = .ok (.bipush (24), 2) := dd_at dd_Mo_most 5 rfl
theorem d_Mo_most_7 : decode prog_14_method_80_code 7 = .ok (.if_icmp .ge (35), 3) := dd_at dd_Mo_most 6 rfl
theorem d_Mo_most_10 : decode prog_14_method_80_code 10 = .ok (.aload_n 0, 1) := dd_at dd_Mo_most 7 rfl
theorem d_Mo_most_11 : decode prog_14_method_80_code 11 = .ok (.getfield 42, 3) := dd_at dd_Mo_most 8 rfl
theorem d_Mo_most_14 : decode prog_14_method_80_code 14 = .ok (.iload_n 2, 1) := dd_at dd_Mo_most 9 rfl
theorem d_Mo_most_15 : decode prog_14_method_80_code 15 = .ok (.iaload, 1) := dd_at dd_Mo_most 10 rfl
theorem d_Mo_most_16 : decode prog_14_method_80_code 16 = .ok (.ifCond .le (20), 3) := dd_at dd_Mo_most 11 rfl
theorem d_Mo_most_19 : decode prog_14_method_80_code 19 = .ok (.aload_n 0, 1) := dd_at dd_Mo_most 12 rfl
theorem d_Mo_most_20 : decode prog_14_method_80_code 20 = .ok (.getfield 42, 3) := dd_at dd_Mo_most 13 rfl
theorem d_Mo_most_23 : decode prog_14_method_80_code 23 = .ok (.iload_n 2, 1) := dd_at dd_Mo_most 14 rfl
theorem d_Mo_most_24 : decode prog_14_method_80_code 24 = .ok (.iaload, 1) := dd_at dd_Mo_most 15 rfl
theorem d_Mo_most_25 : decode prog_14_method_80_code 25 = .ok (.iload_n 1, 1) := dd_at dd_Mo_most 16 rfl
theorem d_Mo_most_26 : decode prog_14_method_80_code 26 = .ok (.if_icmp .le (10), 3) := dd_at dd_Mo_most 17 rfl
theorem d_Mo_most_29 : decode prog_14_method_80_code 29 = .ok (.aload_n 0, 1) := dd_at dd_Mo_most 18 rfl
theorem d_Mo_most_30 : decode prog_14_method_80_code 30 = .ok (.getfield 42, 3) := dd_at dd_Mo_most 19 rfl
theorem d_Mo_most_33 : decode prog_14_method_80_code 33 = .ok (.iload_n 2, 1) := dd_at dd_Mo_most 20 rfl
theorem d_Mo_most_34 : decode prog_14_method_80_code 34 = .ok (.iaload, 1) := dd_at dd_Mo_most 21 rfl
theorem d_Mo_most_35 : decode prog_14_method_80_code 35 = .ok (.istore_n 1, 1) := dd_at dd_Mo_most 22 rfl
theorem d_Mo_most_36 : decode prog_14_method_80_code 36 = .ok (.iinc 2 (1), 3) := dd_at dd_Mo_most 23 rfl
theorem d_Mo_most_39 : decode prog_14_method_80_code 39 = .ok (.goto (-35), 3) := dd_at dd_Mo_most 24 rfl
theorem d_Mo_most_42 : decode prog_14_method_80_code 42 = .ok (.iload_n 1, 1) := dd_at dd_Mo_most 25 rfl
theorem d_Mo_most_43 : decode prog_14_method_80_code 43 = .ok (.ireturn, 1) := dd_at dd_Mo_most 26 rfl
def ld_Mo_count : List (Nat × Instr × Nat) := [(0, .aload_n 0, 1), (1, .iconst 0, 1), (2, .putfield 7, 3), (5, .iload_n 1, 1), (6, .tableswitch (122) (0) (9) #[(54), (59), (64), (69), (74), (79), (84), (89), (94), (117)], 54), (60, .aload_n 0, 1), (61, .getfield 13, 3), (64, .ireturn, 1), (65, .aload_n 0, 1), (66, .invokevirtual 332, 3), (69, .ireturn, 1), (70, .aload_n 0, 1), (71, .getfield 61, 3), (74, .ireturn, 1), (75, .aload_n 0, 1), (76, .getfield 67, 3), (79, .ireturn, 1), (80, .aload_n 0, 1), (81, .getfield 82, 3), (84, .ireturn, 1), (85, .aload_n 0, 1), (86, .getfield 79, 3), (89, .ireturn, 1), (90, .aload_n 0, 1), (91, .getfield 76, 3), (94, .ireturn, 1), (95, .aload_n 0, 1), (96, .getfield 91, 3), (99, .ireturn, 1), (100, .aload_n 0, 1), (101, .iconst 0, 1), (102, .invokevirtual 389, 3), (105, .ifCond .ge (7), 3), (108, .iconst (-1), 1), (109, .goto (13), 3), (112, .aload_n 0, 1), (113, .getfield 42, 3), (116, .aload_n 0, 1), (117, .iconst 0, 1), (118, .invokevirtual 389, 3), (121, .iaload, 1), (122, .ireturn, 1), (123, .aload_n 0, 1), (124, .invokevirtual 446, 3), (127, .ireturn, 1), (128, .iconst (-1), 1), (129, .ireturn, 1)]
theorem dd_Mo_count : (ld_Mo_count).all (dOK prog_14_method_81_code) = true := by decide +kernel
theorem d_Mo_count_0 : decode prog_14_method_81_code 0 = .ok (.aload_n 0, 1) := dd_at dd_Mo_count 0 rfl
theorem d_Mo_count_1 : decode prog_14_method_81_code 1 = .ok (.iconst 0, 1) := dd_at dd_Mo_count 1 rfl
theorem d_Mo_count_2 : decode prog_14_method_81_code 2 = .ok (.putfield 7, 3) := dd_at dd_Mo_count 2 rfl
theorem d_Mo_count_5 : decode prog_14_method_81_code 5 = .ok (.iload_n 1, 1) := dd_at dd_Mo_count 3 rfl
theorem d_Mo_count_6 : decode prog_14_method_81_code 6 = .ok (.tableswitch (122) (0) (9) #[(54), (59), (64), (69), (74), (79), (84), (89), (94), (117)], 54) := dd_at dd_Mo_count 4 rfl
theorem d_Mo_count_60 : decode prog_14_method_81_code 60 = .ok (.aload_n 0, 1) := dd_at dd_Mo_count 5 rfl
theorem d_Mo_count_61 : decode prog_14_method_81_code 61 = .ok (.getfield 13, 3) := dd_at dd_Mo_count 6 rfl
theorem d_Mo_count_64 : decode prog_14_method_81_code 64 = .ok (.ireturn, 1) := dd_at dd_Mo_count 7 rfl
theorem d_Mo_count_65 : decode prog_14_method_81_code 65 = .ok (.aload_n 0, 1) := dd_at dd_Mo_count 8 rfl
theorem d_Mo_count_66 : decode prog_14_method_81_code 66 = .ok (.invokevirtual 332, 3) := dd_at dd_Mo_count 9 rfl
theorem d_Mo_count_69 : decode prog_14_method_81_code 69 = .ok (.ireturn, 1) := dd_at dd_Mo_count 10 rfl
theorem d_Mo_count_70 : decode prog_14_method_81_code 70 = .ok (.aload_n 0, 1) := dd_at dd_Mo_count 11 rfl
theorem d_Mo_count_71 : decode prog_14_method_81_code 71 = .ok (.getfield 61, 3) := dd_at dd_Mo_count 12 rfl
theorem d_Mo_count_74 : decode prog_14_method_81_code 74 = .ok (.ireturn, 1) := dd_at dd_Mo_count 13 rfl
theorem d_Mo_count_75 : decode prog_14_method_81_code 75 = .ok (.aload_n 0, 1) := dd_at dd_Mo_count 14 rfl
theorem d_Mo_count_76 : decode prog_14_method_81_code 76 = .ok (.getfield 67, 3) := dd_at dd_Mo_count 15 rfl
theorem d_Mo_count_79 : decode prog_14_method_81_code 79 = .ok (.ireturn, 1) := dd_at dd_Mo_count 16 rfl
theorem d_Mo_count_80 : decode prog_14_method_81_code 80 = .ok (.aload_n 0, 1) := dd_at dd_Mo_count 17 rfl
theorem d_Mo_count_81 : decode prog_14_method_81_code 81 = .ok (.getfield 82, 3) := dd_at dd_Mo_count 18 rfl
theorem d_Mo_count_84 : decode prog_14_method_81_code 84 = .ok (.ireturn, 1) := dd_at dd_Mo_count 19 rfl
theorem d_Mo_count_85 : decode prog_14_method_81_code 85 = .ok (.aload_n 0, 1) := dd_at dd_Mo_count 20 rfl
theorem d_Mo_count_86 : decode prog_14_method_81_code 86 = .ok (.getfield 79, 3) := dd_at dd_Mo_count 21 rfl
theorem d_Mo_count_89 : decode prog_14_method_81_code 89 = .ok (.ireturn, 1) := dd_at dd_Mo_count 22 rfl
theorem d_Mo_count_90 : decode prog_14_method_81_code 90 = .ok (.aload_n 0, 1) := dd_at dd_Mo_count 23 rfl
theorem d_Mo_count_91 : decode prog_14_method_81_code 91 = .ok (.getfield 76, 3) := dd_at dd_Mo_count 24 rfl
theorem d_Mo_count_94 : decode prog_14_method_81_code 94 = .ok (.ireturn, 1) := dd_at dd_Mo_count 25 rfl
theorem d_Mo_count_95 : decode prog_14_method_81_code 95 = .ok (.aload_n 0, 1) := dd_at dd_Mo_count 26 rfl
theorem d_Mo_count_96 : decode prog_14_method_81_code 96 = .ok (.getfield 91, 3) := dd_at dd_Mo_count 27 rfl
theorem d_Mo_count_99 : decode prog_14_method_81_code 99 = .ok (.ireturn, 1) := dd_at dd_Mo_count 28 rfl
theorem d_Mo_count_100 : decode prog_14_method_81_code 100 = .ok (.aload_n 0, 1) := dd_at dd_Mo_count 29 rfl
theorem d_Mo_count_101 : decode prog_14_method_81_code 101 = .ok (.iconst 0, 1) := dd_at dd_Mo_count 30 rfl
theorem d_Mo_count_102 : decode prog_14_method_81_code 102 = .ok (.invokevirtual 389, 3) := dd_at dd_Mo_count 31 rfl
theorem d_Mo_count_105 : decode prog_14_method_81_code 105 = .ok (.ifCond .ge (7), 3) := dd_at dd_Mo_count 32 rfl
theorem d_Mo_count_108 : decode prog_14_method_81_code 108 = .ok (.iconst (-1), 1) := dd_at dd_Mo_count 33 rfl
theorem d_Mo_count_109 : decode prog_14_method_81_code 109 = .ok (.goto (13), 3) := dd_at dd_Mo_count 34 rfl
theorem d_Mo_count_112 : decode prog_14_method_81_code 112 = .ok (.aload_n 0, 1) := dd_at dd_Mo_count 35 rfl
theorem d_Mo_count_113 : decode prog_14_method_81_code 113 = .ok (.getfield 42, 3) := dd_at dd_Mo_count 36 rfl
theorem d_Mo_count_116 : decode prog_14_method_81_code 116 = .ok (.aload_n 0, 1) := dd_at dd_Mo_count 37 rfl
theorem d_Mo_count_117 : decode prog_14_method_81_code 117 = .ok (.iconst 0, 1) := dd_at dd_Mo_count 38 rfl
theorem d_Mo_count_118 : decode prog_14_method_81_code 118 = .ok (.invokevirtual 389, 3) := dd_at dd_Mo_count 39 rfl
theorem d_Mo_count_121 : decode prog_14_method_81_code 121 = .ok (.iaload, 1) := dd_at dd_Mo_count 40 rfl
theorem d_Mo_count_122 : decode prog_14_method_81_code 122 = .ok (.ireturn, 1) := dd_at dd_Mo_count 41 rfl
theorem d_Mo_count_123 : decode prog_14_method_81_code 123 = .ok (.aload_n 0, 1) := dd_at dd_Mo_count 42 rfl
theorem d_Mo_count_124 : decode prog_14_method_81_code 124 = .ok (.invokevirtual 446, 3) := dd_at dd_Mo_count 43 rfl
theorem d_Mo_count_127 : decode prog_14_method_81_code 127 = .ok (.ireturn, 1) := dd_at dd_Mo_count 44 rfl
theorem d_Mo_count_128 : decode prog_14_method_81_code 128 = .ok (.iconst (-1), 1) := dd_at dd_Mo_count 45 rfl
theorem d_Mo_count_129 : decode prog_14_method_81_code 129 = .ok (.ireturn, 1) := dd_at dd_Mo_count 46 rfl
def ld_Mo_enter : List (Nat × Instr × Nat) := [(0, .aload_n 0, 1), (1, .iconst 0, 1), (2, .putfield 16, 3), (5, .iconst 0, 1), (6, .istore_n 1, 1), (7, .iload_n 1, 1), (8, .aload_n 0, 1), (9, .getfield 13, 3), (12, .if_icmp .ge (48), 3), (15, .aload_n 0, 1), (16, .getfield 35, 3), (19, .iload_n 1, 1), (20, .caload, 1), (21, .bipush (32), 2), (23, .if_icmp .ne (6), 3), (26, .goto (28), 3), (29, .aload_n 0, 1), (30, .getfield 39, 3), (33, .aload_n 0, 1), (34, .getfield 16, 3), (37, .aload_n 0, 1), (38, .getfield 35, 3), (41, .iload_n 1, 1), (42, .caload, 1), (43, .castore, 1), (44, .aload_n 0, 1), (45, .dup, 1), (46, .getfield 16, 3), (49, .iconst 1, 1), (50, .iadd, 1), (51, .putfield 16, 3), (54, .iinc 1 (1), 3), (57, .goto (-50), 3), (60, .aload_n 0, 1), (61, .iconst 0, 1), (62, .putfield 13, 3), (65, .aload_n 0, 1), (66, .iconst 0, 1), (67, .putfield 22, 3), (70, .aload_n 0, 1), (71, .iconst 0, 1), (72, .putfield 25, 3), (75, .aload_n 0, 1), (76, .iconst 0, 1), (77, .putfield 28, 3), (80, .aload_n 0, 1), (81, .iconst 0, 1), (82, .putfield 31, 3), (85, .aload_n 0, 1), (86, .iconst (-1), 1), (87, .putfield 19, 3), (90, .aload_n 0, 1), (91, .getfield 42, 3), (94, .bipush (24), 2), (96, .aload_n 0, 1), (97, .invokevirtual 296, 3), (100, .iastore, 1), (101, .aload_n 0, 1), (102, .getfield 31, 3), (105, .ifCond .ne (18), 3), (108, .aload_n 0, 1), (109, .getfield 22, 3), (112, .aload_n 0, 1), (113, .getfield 16, 3), (116, .if_icmp .ne (7), 3), (119, .iconst 1, 1), (120, .goto (4), 3), (123, .iconst 0, 1), (124, .istore_n 1, 1), (125, .iload_n 1, 1), (126, .ifCond .ne (14), 3), (129, .aload_n 0, 1), (130, .getfield 31, 3), (133, .ifCond .ne (7), 3), (136, .aload_n 0, 1), (137, .invokevirtual 326, 3), (140, .aload_n 0, 1), (141, .getfield 31, 3), (144, .ifCond .eq (17), 3), (147, .aload_n 0, 1), (148, .aload_n 0, 1), (149, .getfield 22, 3), (152, .putfield 19, 3), (155, .aload_n 0, 1), (156, .iconst 1, 1), (157, .invokevirtual 149, 3), (160, .ireturn, 1), (161, .aload_n 0, 1), (162, .aload_n 0, 1), (163, .getfield 42, 3), (166, .bipush (24), 2), (168, .iaload, 1), (169, .invokevirtual 329, 3), (172, .istore_n 2, 1), (173, .iload_n 1, 1), (174, .ifCond .eq (29), 3), (177, .iload_n 2, 1), (178, .ifCond .ge (9), 3), (181, .aload_n 0, 1), (182, .iconst 2, 1), (183, .invokevirtual 149, 3), (186, .ireturn, 1), (187, .aload_n 0, 1), (188, .getfield 42, 3), (191, .iload_n 2, 1), (192, .iconst 0, 1), (193, .iastore, 1), (194, .aload_n 0, 1), (195, .aload_n 0, 1), (196, .invokevirtual 332, 3), (199, .invokevirtual 153, 3), (202, .ireturn, 1), (203, .iload_n 2, 1), (204, .ifCond .ge (9), 3), (207, .aload_n 0, 1), (208, .iconst 0, 1), (209, .invokevirtual 329, 3), (212, .istore_n 2, 1), (213, .iload_n 2, 1), (214, .ifCond .ge (9), 3), (217, .aload_n 0, 1), (218, .iconst 3, 1), (219, .invokevirtual 149, 3), (222, .ireturn, 1), (223, .aload_n 0, 1), (224, .iload_n 2, 1), (225, .invokevirtual 335, 3), (228, .aload_n 0, 1), (229, .aload_n 0, 1), (230, .invokevirtual 332, 3), (233, .invokevirtual 153, 3), (236, .ireturn, 1)]
theorem dd_Mo_enter : (ld_Mo_enter).all (dOK prog_14_method_43_code) = true := by decide +kernel
theorem d_Mo_enter_0 : decode prog_14_method_43_code 0 = .ok (.aload_n 0, 1) := dd_at dd_Mo_enter 0 rfl
theorem d_Mo_enter_1 : decode prog_14_method_43_code 1 = .ok (.iconst 0, 1) := dd_at dd_Mo_enter 1 rfl
theorem d_Mo_enter_2 : decode prog_14_method_43_code 2 = .ok (.putfield 16, 3) := dd_at dd_Mo_enter 2 rfl
theorem d_Mo_enter_5 : decode prog_14_method_43_code 5 = .ok (.iconst 0, 1) := dd_at dd_Mo_enter 3 rfl
theorem d_Mo_enter_6 : decode prog_14_method_43_code 6 = .ok (.istore_n 1, 1) := dd_at dd_Mo_enter 4 rfl
theorem d_Mo_enter_7 : decode prog_14_method_43_code 7 = .ok (.iload_n 1, 1) := dd_at dd_Mo_enter 5 rfl
theorem d_Mo_enter_8 : decode prog_14_method_43_code 8 = .ok (.aload_n 0, 1) := dd_at dd_Mo_enter 6 rfl
theorem d_Mo_enter_9 : decode prog_14_method_43_code 9 = .ok (.getfield 13, 3) := dd_at dd_Mo_enter 7 rfl
theorem d_Mo_enter_12 : decode prog_14_method_43_code 12 = .ok (.if_icmp .ge (48), 3) := dd_at dd_Mo_enter 8 rfl
theorem d_Mo_enter_15 : decode prog_14_method_43_code 15 = .ok (.aload_n 0, 1) := dd_at dd_Mo_enter 9 rfl
theorem d_Mo_enter_16 : decode prog_14_method_43_code 16 = .ok (.getfield 35, 3) := dd_at dd_Mo_enter 10 rfl
theorem d_Mo_enter_19 : decode prog_14_method_43_code 19 = .ok (.iload_n 1, 1) := dd_at dd_Mo_enter 11 rfl
theorem d_Mo_enter_20 : decode prog_14_method_43_code 20 = .ok (.caload, 1) := dd_at dd_Mo_enter 12 rfl
theorem d_Mo_enter_21 : decode prog_14_method_43_code 21 = .ok (.bipush (32), 2) := dd_at dd_Mo_enter 13 rfl
theorem d_Mo_enter_23 : decode prog_14_method_43_code 23 = .ok (.if_icmp .ne (6), 3) := dd_at dd_Mo_enter 14 rfl
theorem d_Mo_enter_26 : decode prog_14_method_43_code 26 = .ok (.goto (28), 3) := dd_at dd_Mo_enter 15 rfl
theorem d_Mo_enter_29 : decode prog_14_method_43_code 29 = .ok (.aload_n 0, 1) := dd_at dd_Mo_enter 16 rfl
theorem d_Mo_enter_30 : decode prog_14_method_43_code 30 = .ok (.getfield 39, 3) := dd_at dd_Mo_enter 17 rfl
theorem d_Mo_enter_33 : decode prog_14_method_43_code 33 = .ok (.aload_n 0, 1) := dd_at dd_Mo_enter 18 rfl
theorem d_Mo_enter_34 : decode prog_14_method_43_code 34 = .ok (.getfield 16, 3) := dd_at dd_Mo_enter 19 rfl
theorem d_Mo_enter_37 : decode prog_14_method_43_code 37 = .ok (.aload_n 0, 1) := dd_at dd_Mo_enter 20 rfl
theorem d_Mo_enter_38 : decode prog_14_method_43_code 38 = .ok (.getfield 35, 3) := dd_at dd_Mo_enter 21 rfl
theorem d_Mo_enter_41 : decode prog_14_method_43_code 41 = .ok (.iload_n 1, 1) := dd_at dd_Mo_enter 22 rfl
theorem d_Mo_enter_42 : decode prog_14_method_43_code 42 = .ok (.caload, 1) := dd_at dd_Mo_enter 23 rfl
theorem d_Mo_enter_43 : decode prog_14_method_43_code 43 = .ok (.castore, 1) := dd_at dd_Mo_enter 24 rfl
theorem d_Mo_enter_44 : decode prog_14_method_43_code 44 = .ok (.aload_n 0, 1) := dd_at dd_Mo_enter 25 rfl
theorem d_Mo_enter_45 : decode prog_14_method_43_code 45 = .ok (.dup, 1) := dd_at dd_Mo_enter 26 rfl
theorem d_Mo_enter_46 : decode prog_14_method_43_code 46 = .ok (.getfield 16, 3) := dd_at dd_Mo_enter 27 rfl
theorem d_Mo_enter_49 : decode prog_14_method_43_code 49 = .ok (.iconst 1, 1) := dd_at dd_Mo_enter 28 rfl
theorem d_Mo_enter_50 : decode prog_14_method_43_code 50 = .ok (.iadd, 1) := dd_at dd_Mo_enter 29 rfl
theorem d_Mo_enter_51 : decode prog_14_method_43_code 51 = .ok (.putfield 16, 3) := dd_at dd_Mo_enter 30 rfl
theorem d_Mo_enter_54 : decode prog_14_method_43_code 54 = .ok (.iinc 1 (1), 3) := dd_at dd_Mo_enter 31 rfl
theorem d_Mo_enter_57 : decode prog_14_method_43_code 57 = .ok (.goto (-50), 3) := dd_at dd_Mo_enter 32 rfl
theorem d_Mo_enter_60 : decode prog_14_method_43_code 60 = .ok (.aload_n 0, 1) := dd_at dd_Mo_enter 33 rfl
theorem d_Mo_enter_61 : decode prog_14_method_43_code 61 = .ok (.iconst 0, 1) := dd_at dd_Mo_enter 34 rfl
theorem d_Mo_enter_62 : decode prog_14_method_43_code 62 = .ok (.putfield 13, 3) := dd_at dd_Mo_enter 35 rfl
theorem d_Mo_enter_65 : decode prog_14_method_43_code 65 = .ok (.aload_n 0, 1) := dd_at dd_Mo_enter 36 rfl
theorem d_Mo_enter_66 : decode prog_14_method_43_code 66 = .ok (.iconst 0, 1) := dd_at dd_Mo_enter 37 rfl
theorem d_Mo_enter_67 : decode prog_14_method_43_code 67 = .ok (.putfield 22, 3) := dd_at dd_Mo_enter 38 rfl
theorem d_Mo_enter_70 : decode prog_14_method_43_code 70 = .ok (.aload_n 0, 1) := dd_at dd_Mo_enter 39 rfl
theorem d_Mo_enter_71 : decode prog_14_method_43_code 71 = .ok (.iconst 0, 1) := dd_at dd_Mo_enter 40 rfl
theorem d_Mo_enter_72 : decode prog_14_method_43_code 72 = .ok (.putfield 25, 3) := dd_at dd_Mo_enter 41 rfl
theorem d_Mo_enter_75 : decode prog_14_method_43_code 75 = .ok (.aload_n 0, 1) := dd_at dd_Mo_enter 42 rfl
theorem d_Mo_enter_76 : decode prog_14_method_43_code 76 = .ok (.iconst 0, 1) := dd_at dd_Mo_enter 43 rfl
theorem d_Mo_enter_77 : decode prog_14_method_43_code 77 = .ok (.putfield 28, 3) := dd_at dd_Mo_enter 44 rfl
theorem d_Mo_enter_80 : decode prog_14_method_43_code 80 = .ok (.aload_n 0, 1) := dd_at dd_Mo_enter 45 rfl
theorem d_Mo_enter_81 : decode prog_14_method_43_code 81 = .ok (.iconst 0, 1) := dd_at dd_Mo_enter 46 rfl
theorem d_Mo_enter_82 : decode prog_14_method_43_code 82 = .ok (.putfield 31, 3) := dd_at dd_Mo_enter 47 rfl
theorem d_Mo_enter_85 : decode prog_14_method_43_code 85 = .ok (.aload_n 0, 1) := dd_at dd_Mo_enter 48 rfl
theorem d_Mo_enter_86 : decode prog_14_method_43_code 86 = .ok (.iconst (-1), 1) := dd_at dd_Mo_enter 49 rfl
theorem d_Mo_enter_87 : decode prog_14_method_43_code 87 = .ok (.putfield 19, 3) := dd_at dd_Mo_enter 50 rfl
theorem d_Mo_enter_90 : decode prog_14_method_43_code 90 = .ok (.aload_n 0, 1) := dd_at dd_Mo_enter 51 rfl
theorem d_Mo_enter_91 : decode prog_14_method_43_code 91 = .ok (.getfield 42, 3) := dd_at dd_Mo_enter 52 rfl
theorem d_Mo_enter_94 : decode prog_14_method_43_code 94 = .ok (.bipush (24), 2) := dd_at dd_Mo_enter 53 rfl
theorem d_Mo_enter_96 : decode prog_14_method_43_code 96 = .ok (.aload_n 0, 1) := dd_at dd_Mo_enter 54 rfl
theorem d_Mo_enter_97 : decode prog_14_method_43_code 97 = .ok (.invokevirtual 296, 3) := dd_at dd_Mo_enter 55 rfl
theorem d_Mo_enter_100 : decode prog_14_method_43_code 100 = .ok (.iastore, 1) := dd_at dd_Mo_enter 56 rfl
theorem d_Mo_enter_101 : decode prog_14_method_43_code 101 = .ok (.aload_n 0, 1) := dd_at dd_Mo_enter 57 rfl
theorem d_Mo_enter_102 : decode prog_14_method_43_code 102 = .ok (.getfield 31, 3) := dd_at dd_Mo_enter 58 rfl
theorem d_Mo_enter_105 : decode prog_14_method_43_code 105 = .ok (.ifCond .ne (18), 3) := dd_at dd_Mo_enter 59 rfl
theorem d_Mo_enter_108 : decode prog_14_method_43_code 108 = .ok (.aload_n 0, 1) := dd_at dd_Mo_enter 60 rfl
theorem d_Mo_enter_109 : decode prog_14_method_43_code 109 = .ok (.getfield 22, 3) := dd_at dd_Mo_enter 61 rfl
theorem d_Mo_enter_112 : decode prog_14_method_43_code 112 = .ok (.aload_n 0, 1) := dd_at dd_Mo_enter 62 rfl
theorem d_Mo_enter_113 : decode prog_14_method_43_code 113 = .ok (.getfield 16, 3) := dd_at dd_Mo_enter 63 rfl
theorem d_Mo_enter_116 : decode prog_14_method_43_code 116 = .ok (.if_icmp .ne (7), 3) := dd_at dd_Mo_enter 64 rfl
theorem d_Mo_enter_119 : decode prog_14_method_43_code 119 = .ok (.iconst 1, 1) := dd_at dd_Mo_enter 65 rfl
theorem d_Mo_enter_120 : decode prog_14_method_43_code 120 = .ok (.goto (4), 3) := dd_at dd_Mo_enter 66 rfl
theorem d_Mo_enter_123 : decode prog_14_method_43_code 123 = .ok (.iconst 0, 1) := dd_at dd_Mo_enter 67 rfl
theorem d_Mo_enter_124 : decode prog_14_method_43_code 124 = .ok (.istore_n 1, 1) := dd_at dd_Mo_enter 68 rfl
theorem d_Mo_enter_125 : decode prog_14_method_43_code 125 = .ok (.iload_n 1, 1) := dd_at dd_Mo_enter 69 rfl
theorem d_Mo_enter_126 : decode prog_14_method_43_code 126 = .ok (.ifCond .ne (14), 3) := dd_at dd_Mo_enter 70 rfl
theorem d_Mo_enter_129 : decode prog_14_method_43_code 129 = .ok (.aload_n 0, 1) := dd_at dd_Mo_enter 71 rfl
theorem d_Mo_enter_130 : decode prog_14_method_43_code 130 = .ok (.getfield 31, 3) := dd_at dd_Mo_enter 72 rfl
theorem d_Mo_enter_133 : decode prog_14_method_43_code 133 = .ok (.ifCond .ne (7), 3) := dd_at dd_Mo_enter 73 rfl
theorem d_Mo_enter_136 : decode prog_14_method_43_code 136 = .ok (.aload_n 0, 1) := dd_at dd_Mo_enter 74 rfl
theorem d_Mo_enter_137 : decode prog_14_method_43_code 137 = .ok (.invokevirtual 326, 3) := dd_at dd_Mo_enter 75 rfl
theorem d_Mo_enter_140 : decode prog_14_method_43_code 140 = .ok (.aload_n 0, 1) := dd_at dd_Mo_enter 76 rfl
theorem d_Mo_enter_141 : decode prog_14_method_43_code 141 = .ok (.getfield 31, 3) := dd_at dd_Mo_enter 77 rfl
theorem d_Mo_enter_144 : decode prog_14_method_43_code 144 = .ok (.ifCond .eq (17), 3) := dd_at dd_Mo_enter 78 rfl
theorem d_Mo_enter_147 : decode prog_14_method_43_code 147 = .ok (.aload_n 0, 1) := dd_at dd_Mo_enter 79 rfl
theorem d_Mo_enter_148 : decode prog_14_method_43_code 148 = .ok (.aload_n 0, 1) := dd_at dd_Mo_enter 80 rfl
theorem d_Mo_enter_149 : decode prog_14_method_43_code 149 = .ok (.getfield 22, 3) := dd_at dd_Mo_enter 81 rfl
theorem d_Mo_enter_152 : decode prog_14_method_43_code 152 = .ok (.putfield 19, 3) := dd_at dd_Mo_enter 82 rfl
theorem d_Mo_enter_155 : decode prog_14_method_43_code 155 = .ok (.aload_n 0, 1) := dd_at dd_Mo_enter 83 rfl
theorem d_Mo_enter_156 : decode prog_14_method_43_code 156 = .ok (.iconst 1, 1) := dd_at dd_Mo_enter 84 rfl
theorem d_Mo_enter_157 : decode prog_14_method_43_code 157 = .ok (.invokevirtual 149, 3) := dd_at dd_Mo_enter 85 rfl
theorem d_Mo_enter_160 : decode prog_14_method_43_code 160 = .ok (.ireturn, 1) := dd_at dd_Mo_enter 86 rfl
theorem d_Mo_enter_161 : decode prog_14_method_43_code 161 = .ok (.aload_n 0, 1) := dd_at dd_Mo_enter 87 rfl
theorem d_Mo_enter_162 : decode prog_14_method_43_code 162 = .ok (.aload_n 0, 1) := dd_at dd_Mo_enter 88 rfl
theorem d_Mo_enter_163 : decode prog_14_method_43_code 163 = .ok (.getfield 42, 3) := dd_at dd_Mo_enter 89 rfl
theorem d_Mo_enter_166 : decode prog_14_method_43_code 166 = .ok (.bipush (24), 2) := dd_at dd_Mo_enter 90 rfl
theorem d_Mo_enter_168 : decode prog_14_method_43_code 168 = .ok (.iaload, 1) := dd_at dd_Mo_enter 91 rfl
theorem d_Mo_enter_169 : decode prog_14_method_43_code 169 = .ok (.invokevirtual 329, 3) := dd_at dd_Mo_enter 92 rfl
theorem d_Mo_enter_172 : decode prog_14_method_43_code 172 = .ok (.istore_n 2, 1) := dd_at dd_Mo_enter 93 rfl
theorem d_Mo_enter_173 : decode prog_14_method_43_code 173 = .ok (.iload_n 1, 1) := dd_at dd_Mo_enter 94 rfl
theorem d_Mo_enter_174 : decode prog_14_method_43_code 174 = .ok (.ifCond .eq (29), 3) := dd_at dd_Mo_enter 95 rfl
theorem d_Mo_enter_177 : decode prog_14_method_43_code 177 = .ok (.iload_n 2, 1) := dd_at dd_Mo_enter 96 rfl
theorem d_Mo_enter_178 : decode prog_14_method_43_code 178 = .ok (.ifCond .ge (9), 3) := dd_at dd_Mo_enter 97 rfl
theorem d_Mo_enter_181 : decode prog_14_method_43_code 181 = .ok (.aload_n 0, 1) := dd_at dd_Mo_enter 98 rfl
theorem d_Mo_enter_182 : decode prog_14_method_43_code 182 = .ok (.iconst 2, 1) := dd_at dd_Mo_enter 99 rfl
theorem d_Mo_enter_183 : decode prog_14_method_43_code 183 = .ok (.invokevirtual 149, 3) := dd_at dd_Mo_enter 100 rfl
theorem d_Mo_enter_186 : decode prog_14_method_43_code 186 = .ok (.ireturn, 1) := dd_at dd_Mo_enter 101 rfl
theorem d_Mo_enter_187 : decode prog_14_method_43_code 187 = .ok (.aload_n 0, 1) := dd_at dd_Mo_enter 102 rfl
theorem d_Mo_enter_188 : decode prog_14_method_43_code 188 = .ok (.getfield 42, 3) := dd_at dd_Mo_enter 103 rfl
theorem d_Mo_enter_191 : decode prog_14_method_43_code 191 = .ok (.iload_n 2, 1) := dd_at dd_Mo_enter 104 rfl
theorem d_Mo_enter_192 : decode prog_14_method_43_code 192 = .ok (.iconst 0, 1) := dd_at dd_Mo_enter 105 rfl
theorem d_Mo_enter_193 : decode prog_14_method_43_code 193 = .ok (.iastore, 1) := dd_at dd_Mo_enter 106 rfl
theorem d_Mo_enter_194 : decode prog_14_method_43_code 194 = .ok (.aload_n 0, 1) := dd_at dd_Mo_enter 107 rfl
theorem d_Mo_enter_195 : decode prog_14_method_43_code 195 = .ok (.aload_n 0, 1) := dd_at dd_Mo_enter 108 rfl
theorem d_Mo_enter_196 : decode prog_14_method_43_code 196 = .ok (.invokevirtual 332, 3) := dd_at dd_Mo_enter 109 rfl
theorem d_Mo_enter_199 : decode prog_14_method_43_code 199 = .ok (.invokevirtual 153, 3) := dd_at dd_Mo_enter 110 rfl
theorem d_Mo_enter_202 : decode prog_14_method_43_code 202 = .ok (.ireturn, 1) := dd_at dd_Mo_enter 111 rfl
theorem d_Mo_enter_203 : decode prog_14_method_43_code 203 = .ok (.iload_n 2, 1) := dd_at dd_Mo_enter 112 rfl
theorem d_Mo_enter_204 : decode prog_14_method_43_code 204 = .ok (.ifCond .ge (9), 3) := dd_at dd_Mo_enter 113 rfl
theorem d_Mo_enter_207 : decode prog_14_method_43_code 207 = .ok (.aload_n 0, 1) := dd_at dd_Mo_enter 114 rfl
theorem d_Mo_enter_208 : decode prog_14_method_43_code 208 = .ok (.iconst 0, 1) := dd_at dd_Mo_enter 115 rfl
theorem d_Mo_enter_209 : decode prog_14_method_43_code 209 = .ok (.invokevirtual 329, 3) := dd_at dd_Mo_enter 116 rfl
theorem d_Mo_enter_212 : decode prog_14_method_43_code 212 = .ok (.istore_n 2, 1) := dd_at dd_Mo_enter 117 rfl
theorem d_Mo_enter_213 : decode prog_14_method_43_code 213 = .ok (.iload_n 2, 1) := dd_at dd_Mo_enter 118 rfl
theorem d_Mo_enter_214 : decode prog_14_method_43_code 214 = .ok (.ifCond .ge (9), 3) := dd_at dd_Mo_enter 119 rfl
theorem d_Mo_enter_217 : decode prog_14_method_43_code 217 = .ok (.aload_n 0, 1) := dd_at dd_Mo_enter 120 rfl
theorem d_Mo_enter_218 : decode prog_14_method_43_code 218 = .ok (.iconst 3, 1) := dd_at dd_Mo_enter 121 rfl
theorem d_Mo_enter_219 : decode prog_14_method_43_code 219 = .ok (.invokevirtual 149, 3) := dd_at dd_Mo_enter 122 rfl
theorem d_Mo_enter_222 : decode prog_14_method_43_code 222 = .ok (.ireturn, 1) := dd_at dd_Mo_enter 123 rfl
theorem d_Mo_enter_223 : decode prog_14_method_43_code 223 = .ok (.aload_n 0, 1) := dd_at dd_Mo_enter 124 rfl
theorem d_Mo_enter_224 : decode prog_14_method_43_code 224 = .ok (.iload_n 2, 1) := dd_at dd_Mo_enter 125 rfl
theorem d_Mo_enter_225 : decode prog_14_method_43_code 225 = .ok (.invokevirtual 335, 3) := dd_at dd_Mo_enter 126 rfl
theorem d_Mo_enter_228 : decode prog_14_method_43_code 228 = .ok (.aload_n 0, 1) := dd_at dd_Mo_enter 127 rfl
theorem d_Mo_enter_229 : decode prog_14_method_43_code 229 = .ok (.aload_n 0, 1) := dd_at dd_Mo_enter 128 rfl
theorem d_Mo_enter_230 : decode prog_14_method_43_code 230 = .ok (.invokevirtual 332, 3) := dd_at dd_Mo_enter 129 rfl
theorem d_Mo_enter_233 : decode prog_14_method_43_code 233 = .ok (.invokevirtual 153, 3) := dd_at dd_Mo_enter 130 rfl
theorem d_Mo_enter_236 : decode prog_14_method_43_code 236 = .ok (.ireturn, 1) := dd_at dd_Mo_enter 131 rfl
