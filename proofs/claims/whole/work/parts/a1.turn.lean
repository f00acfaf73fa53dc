def ld_La_law : List (Nat × Instr × Nat) := [(0, .new 8, 3), (3, .dup, 1), (4, .invokespecial 43, 3), (7, .astore_n 1, 1), (8, .new 44, 3), (11, .dup, 1), (12, .invokespecial 46, 3), (15, .astore_n 2, 1), (16, .iconst 1, 1), (17, .newarray .long, 2), (19, .astore_n 3, 1), (20, .iconst 1, 1), (21, .newarray .double, 2), (23, .astore 4, 2), (25, .iconst 0, 1), (26, .istore 5, 2), (28, .iload 5, 2), (30, .aload_n 0, 1), (31, .arraylength, 1), (32, .iconst 4, 1), (33, .isub, 1), (34, .if_icmp .gt (535), 3), (37, .aload_n 0, 1), (38, .iload 5, 2), (40, .iaload, 1), (41, .bipush (15), 2), (43, .iand, 1), (44, .tableswitch (519) (0) (9) #[(56), (112), (156), (169), (182), (226), (303), (380), (481), (494)], 56), (100, .aload_n 1, 1), (101, .aload_n 0, 1), (102, .iload 5, 2), (104, .iconst 1, 1), (105, .iadd, 1), (106, .iaload, 1), (107, .aload_n 3, 1), (108, .invokestatic 47, 3), (111, .istore 6, 2), (113, .aload_n 2, 1), (114, .aload_n 0, 1), (115, .iload 5, 2), (117, .iconst 1, 1), (118, .iadd, 1), (119, .iaload, 1), (120, .invokevirtual 52, 3), (123, .istore 7, 2), (125, .aload_n 2, 1), (126, .invokevirtual 53, 3), (129, .iload 6, 2), (131, .if_icmp .eq (5), 3), (134, .iconst 0, 1), (135, .ireturn, 1), (136, .iload 6, 2), (138, .ifCond .ne (15), 3), (141, .aload_n 3, 1), (142, .iconst 0, 1), (143, .laload, 1), (144, .iload 7, 2), (146, .i2l, 1), (147, .lcmp, 1), (148, .ifCond .eq (5), 3), (151, .iconst 0, 1), (152, .ireturn, 1), (153, .goto (410), 3), (156, .aload_n 1, 1), (157, .aload_n 3, 1), (158, .invokestatic 56, 3), (161, .istore 6, 2), (163, .aload_n 2, 1), (164, .invokevirtual 59, 3), (167, .istore 7, 2), (169, .aload_n 2, 1), (170, .invokevirtual 53, 3), (173, .iload 6, 2), (175, .if_icmp .eq (5), 3), (178, .iconst 0, 1), (179, .ireturn, 1), (180, .iload 6, 2), (182, .ifCond .ne (15), 3), (185, .aload_n 3, 1), (186, .iconst 0, 1), (187, .laload, 1), (188, .iload 7, 2), (190, .i2l, 1), (191, .lcmp, 1), (192, .ifCond .eq (5), 3), (195, .iconst 0, 1), (196, .ireturn, 1), (197, .goto (366), 3), (200, .aload_n 1, 1), (201, .invokevirtual 60, 3), (204, .aload_n 2, 1), (205, .invokevirtual 63, 3), (208, .if_icmp .eq (355), 3), (211, .iconst 0, 1), (212, .ireturn, 1), (213, .aload_n 1, 1), (214, .invokevirtual 64, 3), (217, .aload_n 2, 1), (218, .invokevirtual 67, 3), (221, .if_icmp .eq (342), 3), (224, .iconst 0, 1), (225, .ireturn, 1), (226, .aload_n 1, 1), (227, .aload_n 3, 1), (228, .invokestatic 68, 3), (231, .istore 6, 2), (233, .aload_n 2, 1), (234, .invokevirtual 70, 3), (237, .istore 7, 2), (239, .aload_n 2, 1), (240, .invokevirtual 53, 3), (243, .iload 6, 2), (245, .if_icmp .eq (5), 3), (248, .iconst 0, 1), (249, .ireturn, 1), (250, .iload 6, 2), (252, .ifCond .ne (15), 3), (255, .aload_n 3, 1), (256, .iconst 0, 1), (257, .laload, 1), (258, .iload 7, 2), (260, .i2l, 1), (261, .lcmp, 1), (262, .ifCond .eq (5), 3), (265, .iconst 0, 1), (266, .ireturn, 1), (267, .goto (296), 3), (270, .aload_n 1, 1), (271, .aload_n 0, 1), (272, .iload 5, 2), (274, .iconst 1, 1), (275, .iadd, 1), (276, .iaload, 1), (277, .aload 4, 2), (279, .invokestatic 71, 3), (282, .istore 6, 2), (284, .aload_n 2, 1), (285, .aload_n 0, 1), (286, .iload 5, 2), (288, .iconst 1, 1), (289, .iadd, 1), (290, .iaload, 1), (291, .invokevirtual 74, 3), (294, .dstore 7, 2), (296, .aload_n 2, 1), (297, .invokevirtual 53, 3), (300, .iload 6, 2), (302, .if_icmp .eq (5), 3), (305, .iconst 0, 1), (306, .ireturn, 1), (307, .iload 6, 2), (309, .ifCond .ne (35), 3), (312, .aload 4, 2), (314, .iconst 0, 1), (315, .daload, 1), (316, .dload 7, 2), (318, .dcmp .l, 1), (319, .ifCond .eq (25), 3), (322, .aload 4, 2), (324, .iconst 0, 1), (325, .daload, 1), (326, .aload 4, 2), (328, .iconst 0, 1), (329, .daload, 1), (330, .dcmp .l, 1), (331, .ifCond .eq (11), 3), (334, .dload 7, 2), (336, .dload 7, 2), (338, .dcmp .l, 1), (339, .ifCond .ne (5), 3), (342, .iconst 0, 1), (343, .ireturn, 1), (344, .goto (219), 3), (347, .aload_n 1, 1), (348, .aload_n 0, 1), (349, .iload 5, 2), (351, .iconst 1, 1), (352, .iadd, 1), (353, .iaload, 1), (354, .aload 4, 2), (356, .invokestatic 75, 3), (359, .istore 6, 2), (361, .aload_n 2, 1), (362, .aload_n 0, 1), (363, .iload 5, 2), (365, .iconst 1, 1), (366, .iadd, 1), (367, .iaload, 1), (368, .invokevirtual 77, 3), (371, .dstore 7, 2), (373, .aload_n 2, 1), (374, .invokevirtual 53, 3), (377, .iload 6, 2), (379, .if_icmp .eq (5), 3), (382, .iconst 0, 1), (383, .ireturn, 1), (384, .iload 6, 2), (386, .ifCond .ne (35), 3), (389, .aload 4, 2), (391, .iconst 0, 1), (392, .daload, 1), (393, .dload 7, 2), (395, .dcmp .l, 1), (396, .ifCond .eq (25), 3), (399, .aload 4, 2), (401, .iconst 0, 1), (402, .daload, 1), (403, .aload 4, 2), (405, .iconst 0, 1), (406, .daload, 1), (407, .dcmp .l, 1), (408, .ifCond .eq (11), 3), (411, .dload 7, 2), (413, .dload 7, 2), (415, .dcmp .l, 1), (416, .ifCond .ne (5), 3), (419, .iconst 0, 1), (420, .ireturn, 1), (421, .goto (142), 3), (424, .aload_n 1, 1), (425, .aload_n 0, 1), (426, .iload 5, 2), (428, .iconst 1, 1), (429, .iadd, 1), (430, .iaload, 1), (431, .aload_n 0, 1), (432, .iload 5, 2), (434, .iconst 2, 1), (435, .iadd, 1), (436, .iaload, 1), (437, .aload_n 0, 1), (438, .iload 5, 2), (440, .iconst 3, 1), (441, .iadd, 1), (442, .iaload, 1), (443, .aload 4, 2), (445, .invokestatic 78, 3), (448, .istore 6, 2), (450, .aload_n 2, 1), (451, .aload_n 0, 1), (452, .iload 5, 2), (454, .iconst 1, 1), (455, .iadd, 1), (456, .iaload, 1), (457, .aload_n 0, 1), (458, .iload 5, 2), (460, .iconst 2, 1), (461, .iadd, 1), (462, .iaload, 1), (463, .aload_n 0, 1), (464, .iload 5, 2), (466, .iconst 3, 1), (467, .iadd, 1), (468, .iaload, 1), (469, .invokevirtual 81, 3), (472, .dstore 7, 2), (474, .aload_n 2, 1), (475, .invokevirtual 53, 3), (478, .iload 6, 2), (480, .if_icmp .eq (5), 3), (483, .iconst 0, 1), (484, .ireturn, 1), (485, .iload 6, 2), (487, .ifCond .ne (35), 3), (490, .aload 4, 2), (492, .iconst 0, 1), (493, .daload, 1), (494, .dload 7, 2), (496, .dcmp .l, 1), (497, .ifCond .eq (25), 3), (500, .aload 4, 2), (502, .iconst 0, 1), (503, .daload, 1), (504, .aload 4, 2), (506, .iconst 0, 1), (507, .daload, 1), (508, .dcmp .l, 1), (509, .ifCond .eq (11), 3), (512, .dload 7, 2), (514, .dload 7, 2), (516, .dcmp .l, 1), (517, .ifCond .ne (5), 3), (520, .iconst 0, 1), (521, .ireturn, 1), (522, .goto (41), 3), (525, .aload_n 1, 1), (526, .invokevirtual 82, 3), (529, .aload_n 2, 1), (530, .invokevirtual 85, 3), (533, .if_icmp .eq (30), 3), (536, .iconst 0, 1), (537, .ireturn, 1), (538, .aload_n 1, 1), (539, .aload_n 0, 1), (540, .iload 5, 2), (542, .iconst 1, 1), (543, .iadd, 1), (544, .iaload, 1), (545, .invokevirtual 86, 3), (548, .aload_n 2, 1), (549, .aload_n 0, 1), (550, .iload 5, 2), (552, .iconst 1, 1), (553, .iadd, 1), (554, .iaload, 1), (555, .invokevirtual 89, 3), (558, .if_icmp .eq (5), 3), (561, .iconst 0, 1), (562, .ireturn, 1), (563, .iinc 5 (4), 3), (566, .goto (-538), 3), (569, .iconst 1, 1), (570, .ireturn, 1)]
theorem dd_La_law : (ld_La_law).all (dOK code) = true := by decide +kernel
theorem d_La_law_0 : decode code 0 = .ok (.new 8, 3) := dd_at dd_La_law 0 rfl
theorem d_La_law_3 : decode code 3 = .ok (.dup, 1) := dd_at dd_La_law 1 rfl
theorem d_La_law_4 : decode code 4 = .ok (.invokespecial 43, 3) := dd_at dd_La_law 2 rfl
theorem d_La_law_7 : decode code 7 = .ok (.astore_n 1, 1) := dd_at dd_La_law 3 rfl
theorem d_La_law_8 : decode code 8 = .ok (.new 44, 3) := dd_at dd_La_law 4 rfl
theorem d_La_law_11 : decode code 11 = .ok (.dup, 1) := dd_at dd_La_law 5 rfl
theorem d_La_law_12 : decode code 12 = .ok (.invokespecial 46, 3) := dd_at dd_La_law 6 rfl
theorem d_La_law_15 : decode code 15 = .ok (.astore_n 2, 1) := dd_at dd_La_law 7 rfl
theorem d_La_law_16 : decode code 16 = .ok (.iconst 1, 1) := dd_at dd_La_law 8 rfl
theorem d_La_law_17 : decode code 17 = .ok (.newarray .long, 2) := dd_at dd_La_law 9 rfl
theorem d_La_law_19 : decode code 19 = .ok (.astore_n 3, 1) := dd_at dd_La_law 10 rfl
theorem d_La_law_20 : decode code 20 = .ok (.iconst 1, 1) := dd_at dd_La_law 11 rfl
theorem d_La_law_21 : decode code 21 = .ok (.newarray .double, 2) := dd_at dd_La_law 12 rfl
theorem d_La_law_23 : decode code 23 = .ok (.astore 4, 2) := dd_at dd_La_law 13 rfl
theorem d_La_law_25 : decode code 25 = .ok (.iconst 0, 1) := dd_at dd_La_law 14 rfl
theorem d_La_law_26 : decode code 26 = .ok (.istore 5, 2) := dd_at dd_La_law 15 rfl
theorem d_La_law_28 : decode code 28 = .ok (.iload 5, 2) := dd_at dd_La_law 16 rfl
theorem d_La_law_30 : decode code 30 = .ok (.aload_n 0, 1) := dd_at dd_La_law 17 rfl
theorem d_La_law_31 : decode code 31 = .ok (.arraylength, 1) := dd_at dd_La_law 18 rfl
theorem d_La_law_32 : decode code 32 = .ok (.iconst 4, 1) := dd_at dd_La_law 19 rfl
theorem d_La_law_33 : decode code 33 = .ok (.isub, 1) := dd_at dd_La_law 20 rfl
theorem d_La_law_34 : decode code 34 = .ok (.if_icmp .gt (535), 3) := dd_at dd_La_law 21 rfl
theorem d_La_law_37 : decode code 37 = .ok (.aload_n 0, 1) := dd_at dd_La_law 22 rfl
theorem d_La_law_38 : decode code 38 = .ok (.iload 5, 2) := dd_at dd_La_law 23 rfl
theorem d_La_law_40 : decode code 40 = .ok (.iaload, 1) := dd_at dd_La_law 24 rfl
theorem d_La_law_41 : decode code 41 = .ok (.bipush (15), 2) := dd_at dd_La_law 25 rfl
theorem d_La_law_43 : decode code 43 = .ok (.iand, 1) := dd_at dd_La_law 26 rfl
theorem d_La_law_44 : decode code 44 = .ok (.tableswitch (519) (0) (9) #[(56), (112), (156), (169), (182), (226), (303), (380), (481), (494)], 56) := dd_at dd_La_law 27 rfl
theorem d_La_law_100 : decode code 100 = .ok (.aload_n 1, 1) := dd_at dd_La_law 28 rfl
theorem d_La_law_101 : decode code 101 = .ok (.aload_n 0, 1) := dd_at dd_La_law 29 rfl
theorem d_La_law_102 : decode code 102 = .ok (.iload 5, 2) := dd_at dd_La_law 30 rfl
theorem d_La_law_104 : decode code 104 = .ok (.iconst 1, 1) := dd_at dd_La_law 31 rfl
theorem d_La_law_105 : decode code 105 = .ok (.iadd, 1) := dd_at dd_La_law 32 rfl
theorem d_La_law_106 : decode code 106 = .ok (.iaload, 1) := dd_at dd_La_law 33 rfl
theorem d_La_law_107 : decode code 107 = .ok (.aload_n 3, 1) := dd_at dd_La_law 34 rfl
theorem d_La_law_108 : decode code 108 = .ok (.invokestatic 47, 3) := dd_at dd_La_law 35 rfl
theorem d_La_law_111 : decode code 111 = .ok (.istore 6, 2) := dd_at dd_La_law 36 rfl
theorem d_La_law_113 : decode code 113 = .ok (.aload_n 2, 1) := dd_at dd_La_law 37 rfl
theorem d_La_law_114 : decode code 114 = .ok (.aload_n 0, 1) := dd_at dd_La_law 38 rfl
theorem d_La_law_115 : decode code 115 = .ok (.iload 5, 2) := dd_at dd_La_law 39 rfl
theorem d_La_law_117 : decode code 117 = .ok (.iconst 1, 1) := dd_at dd_La_law 40 rfl
theorem d_La_law_118 : decode code 118 = .ok (.iadd, 1) := dd_at dd_La_law 41 rfl
theorem d_La_law_119 : decode code 119 = .ok (.iaload, 1) := dd_at dd_La_law 42 rfl
theorem d_La_law_120 : decode code 120 = .ok (.invokevirtual 52, 3) := dd_at dd_La_law 43 rfl
theorem d_La_law_123 : decode code 123 = .ok (.istore 7, 2) := dd_at dd_La_law 44 rfl
theorem d_La_law_125 : decode code 125 = .ok (.aload_n 2, 1) := dd_at dd_La_law 45 rfl
theorem d_La_law_126 : decode code 126 = .ok (.invokevirtual 53, 3) := dd_at dd_La_law 46 rfl
theorem d_La_law_129 : decode code 129 = .ok (.iload 6, 2) := dd_at dd_La_law 47 rfl
theorem d_La_law_131 : decode code 131 = .ok (.if_icmp .eq (5), 3) := dd_at dd_La_law 48 rfl
theorem d_La_law_134 : decode code 134 = .ok (.iconst 0, 1) := dd_at dd_La_law 49 rfl
theorem d_La_law_135 : decode code 135 = .ok (.ireturn, 1) := dd_at dd_La_law 50 rfl
theorem d_La_law_136 : decode code 136 = .ok (.iload 6, 2) := dd_at dd_La_law 51 rfl
theorem d_La_law_138 : decode code 138 = .ok (.ifCond .ne (15), 3) := dd_at dd_La_law 52 rfl
theorem d_La_law_141 : decode code 141 = .ok (.aload_n 3, 1) := dd_at dd_La_law 53 rfl
theorem d_La_law_142 : decode code 142 = .ok (.iconst 0, 1) := dd_at dd_La_law 54 rfl
theorem d_La_law_143 : decode code 143 = .ok (.laload, 1) := dd_at dd_La_law 55 rfl
theorem d_La_law_144 : decode code 144 = .ok (.iload 7, 2) := dd_at dd_La_law 56 rfl
theorem d_La_law_146 : decode code 146 = .ok (.i2l, 1) := dd_at dd_La_law 57 rfl
theorem d_La_law_147 : decode code 147 = .ok (.lcmp, 1) := dd_at dd_La_law 58 rfl
theorem d_La_law_148 : decode code 148 = .ok (.ifCond .eq (5), 3) := dd_at dd_La_law 59 rfl
theorem d_La_law_151 : decode code 151 = .ok (.iconst 0, 1) := dd_at dd_La_law 60 rfl
theorem d_La_law_152 : decode code 152 = .ok (.ireturn, 1) := dd_at dd_La_law 61 rfl
theorem d_La_law_153 : decode code 153 = .ok (.goto (410), 3) := dd_at dd_La_law 62 rfl
theorem d_La_law_156 : decode code 156 = .ok (.aload_n 1, 1) := dd_at dd_La_law 63 rfl
theorem d_La_law_157 : decode code 157 = .ok (.aload_n 3, 1) := dd_at dd_La_law 64 rfl
theorem d_La_law_158 : decode code 158 = .ok (.invokestatic 56, 3) := dd_at dd_La_law 65 rfl
theorem d_La_law_161 : decode code 161 = .ok (.istore 6, 2) := dd_at dd_La_law 66 rfl
theorem d_La_law_163 : decode code 163 = .ok (.aload_n 2, 1) := dd_at dd_La_law 67 rfl
theorem d_La_law_164 : decode code 164 = .ok (.invokevirtual 59, 3) := dd_at dd_La_law 68 rfl
theorem d_La_law_167 : decode code 167 = .ok (.istore 7, 2) := dd_at dd_La_law 69 rfl
theorem d_La_law_169 : decode code 169 = .ok (.aload_n 2, 1) := dd_at dd_La_law 70 rfl
theorem d_La_law_170 : decode code 170 = .ok (.invokevirtual 53, 3) := dd_at dd_La_law 71 rfl
theorem d_La_law_173 : decode code 173 = .ok (.iload 6, 2) := dd_at dd_La_law 72 rfl
theorem d_La_law_175 : decode code 175 = .ok (.if_icmp .eq (5), 3) := dd_at dd_La_law 73 rfl
theorem d_La_law_178 : decode code 178 = .ok (.iconst 0, 1) := dd_at dd_La_law 74 rfl
theorem d_La_law_179 : decode code 179 = .ok (.ireturn, 1) := dd_at dd_La_law 75 rfl
theorem d_La_law_180 : decode code 180 = .ok (.iload 6, 2) := dd_at dd_La_law 76 rfl
theorem d_La_law_182 : decode code 182 = .ok (.ifCond .ne (15), 3) := dd_at dd_La_law 77 rfl
theorem d_La_law_185 : decode code 185 = .ok (.aload_n 3, 1) := dd_at dd_La_law 78 rfl
theorem d_La_law_186 : decode code 186 = .ok (.iconst 0, 1) := dd_at dd_La_law 79 rfl
theorem d_La_law_187 : decode code 187 = .ok (.laload, 1) := dd_at dd_La_law 80 rfl
theorem d_La_law_188 : decode code 188 = .ok (.iload 7, 2) := dd_at dd_La_law 81 rfl
theorem d_La_law_190 : decode code 190 = .ok (.i2l, 1) := dd_at dd_La_law 82 rfl
theorem d_La_law_191 : decode code 191 = .ok (.lcmp, 1) := dd_at dd_La_law 83 rfl
theorem d_La_law_192 : decode code 192 = .ok (.ifCond .eq (5), 3) := dd_at dd_La_law 84 rfl
theorem d_La_law_195 : decode code 195 = .ok (.iconst 0, 1) := dd_at dd_La_law 85 rfl
theorem d_La_law_196 : decode code 196 = .ok (.ireturn, 1) := dd_at dd_La_law 86 rfl
theorem d_La_law_197 : decode code 197 = .ok (.goto (366), 3) := dd_at dd_La_law 87 rfl
theorem d_La_law_200 : decode code 200 = .ok (.aload_n 1, 1) := dd_at dd_La_law 88 rfl
theorem d_La_law_201 : decode code 201 = .ok (.invokevirtual 60, 3) := dd_at dd_La_law 89 rfl
theorem d_La_law_204 : decode code 204 = .ok (.aload_n 2, 1) := dd_at dd_La_law 90 rfl
theorem d_La_law_205 : decode code 205 = .ok (.invokevirtual 63, 3) := dd_at dd_La_law 91 rfl
theorem d_La_law_208 : decode code 208 = .ok (.if_icmp .eq (355), 3) := dd_at dd_La_law 92 rfl
theorem d_La_law_211 : decode code 211 = .ok (.iconst 0, 1) := dd_at dd_La_law 93 rfl
theorem d_La_law_212 : decode code 212 = .ok (.ireturn, 1) := dd_at dd_La_law 94 rfl
theorem d_La_law_213 : decode code 213 = .ok (.aload_n 1, 1) := dd_at dd_La_law 95 rfl
theorem d_La_law_214 : decode code 214 = .ok (.invokevirtual 64, 3) := dd_at dd_La_law 96 rfl
theorem d_La_law_217 : decode code 217 = .ok (.aload_n 2, 1) := dd_at dd_La_law 97 rfl
theorem d_La_law_218 : decode code 218 = .ok (.invokevirtual 67, 3) := dd_at dd_La_law 98 rfl
theorem d_La_law_221 : decode code 221 = .ok (.if_icmp .eq (342), 3) := dd_at dd_La_law 99 rfl
theorem d_La_law_224 : decode code 224 = .ok (.iconst 0, 1) := dd_at dd_La_law 100 rfl
theorem d_La_law_225 : decode code 225 = .ok (.ireturn, 1) := dd_at dd_La_law 101 rfl
theorem d_La_law_226 : decode code 226 = .ok (.aload_n 1, 1) := dd_at dd_La_law 102 rfl
theorem d_La_law_227 : decode code 227 = .ok (.aload_n 3, 1) := dd_at dd_La_law 103 rfl
theorem d_La_law_228 : decode code 228 = .ok (.invokestatic 68, 3) := dd_at dd_La_law 104 rfl
theorem d_La_law_231 : decode code 231 = .ok (.istore 6, 2) := dd_at dd_La_law 105 rfl
theorem d_La_law_233 : decode code 233 = .ok (.aload_n 2, 1) := dd_at dd_La_law 106 rfl
theorem d_La_law_234 : decode code 234 = .ok (.invokevirtual 70, 3) := dd_at dd_La_law 107 rfl
theorem d_La_law_237 : decode code 237 = .ok (.istore 7, 2) := dd_at dd_La_law 108 rfl
theorem d_La_law_239 : decode code 239 = .ok (.aload_n 2, 1) := dd_at dd_La_law 109 rfl
theorem d_La_law_240 : decode code 240 = .ok (.invokevirtual 53, 3) := dd_at dd_La_law 110 rfl
theorem d_La_law_243 : decode code 243 = .ok (.iload 6, 2) := dd_at dd_La_law 111 rfl
theorem d_La_law_245 : decode code 245 = .ok (.if_icmp .eq (5), 3) := dd_at dd_La_law 112 rfl
theorem d_La_law_248 : decode code 248 = .ok (.iconst 0, 1) := dd_at dd_La_law 113 rfl
theorem d_La_law_249 : decode code 249 = .ok (.ireturn, 1) := dd_at dd_La_law 114 rfl
theorem d_La_law_250 : decode code 250 = .ok (.iload 6, 2) := dd_at dd_La_law 115 rfl
theorem d_La_law_252 : decode code 252 = .ok (.ifCond .ne (15), 3) := dd_at dd_La_law 116 rfl
theorem d_La_law_255 : decode code 255 = .ok (.aload_n 3, 1) := dd_at dd_La_law 117 rfl
theorem d_La_law_256 : decode code 256 = .ok (.iconst 0, 1) := dd_at dd_La_law 118 rfl
theorem d_La_law_257 : decode code 257 = .ok (.laload, 1) := dd_at dd_La_law 119 rfl
theorem d_La_law_258 : decode code 258 = .ok (.iload 7, 2) := dd_at dd_La_law 120 rfl
theorem d_La_law_260 : decode code 260 = .ok (.i2l, 1) := dd_at dd_La_law 121 rfl
theorem d_La_law_261 : decode code 261 = .ok (.lcmp, 1) := dd_at dd_La_law 122 rfl
theorem d_La_law_262 : decode code 262 = .ok (.ifCond .eq (5), 3) := dd_at dd_La_law 123 rfl
theorem d_La_law_265 : decode code 265 = .ok (.iconst 0, 1) := dd_at dd_La_law 124 rfl
theorem d_La_law_266 : decode code 266 = .ok (.ireturn, 1) := dd_at dd_La_law 125 rfl
theorem d_La_law_267 : decode code 267 = .ok (.goto (296), 3) := dd_at dd_La_law 126 rfl
theorem d_La_law_270 : decode code 270 = .ok (.aload_n 1, 1) := dd_at dd_La_law 127 rfl
theorem d_La_law_271 : decode code 271 = .ok (.aload_n 0, 1) := dd_at dd_La_law 128 rfl
theorem d_La_law_272 : decode code 272 = .ok (.iload 5, 2) := dd_at dd_La_law 129 rfl
theorem d_La_law_274 : decode code 274 = .ok (.iconst 1, 1) := dd_at dd_La_law 130 rfl
theorem d_La_law_275 : decode code 275 = .ok (.iadd, 1) := dd_at dd_La_law 131 rfl
theorem d_La_law_276 : decode code 276 = .ok (.iaload, 1) := dd_at dd_La_law 132 rfl
theorem d_La_law_277 : decode code 277 = .ok (.aload 4, 2) := dd_at dd_La_law 133 rfl
theorem d_La_law_279 : decode code 279 = .ok (.invokestatic 71, 3) := dd_at dd_La_law 134 rfl
theorem d_La_law_282 : decode code 282 = .ok (.istore 6, 2) := dd_at dd_La_law 135 rfl
theorem d_La_law_284 : decode code 284 = .ok (.aload_n 2, 1) := dd_at dd_La_law 136 rfl
theorem d_La_law_285 : decode code 285 = .ok (.aload_n 0, 1) := dd_at dd_La_law 137 rfl
theorem d_La_law_286 : decode code 286 = .ok (.iload 5, 2) := dd_at dd_La_law 138 rfl
theorem d_La_law_288 : decode code 288 = .ok (.iconst 1, 1) := dd_at dd_La_law 139 rfl
theorem d_La_law_289 : decode code 289 = .ok (.iadd, 1) := dd_at dd_La_law 140 rfl
theorem d_La_law_290 : decode code 290 = .ok (.iaload, 1) := dd_at dd_La_law 141 rfl
theorem d_La_law_291 : decode code 291 = .ok (.invokevirtual 74, 3) := dd_at dd_La_law 142 rfl
theorem d_La_law_294 : decode code 294 = .ok (.dstore 7, 2) := dd_at dd_La_law 143 rfl
theorem d_La_law_296 : decode code 296 = .ok (.aload_n 2, 1) := dd_at dd_La_law 144 rfl
theorem d_La_law_297 : decode code 297 = .ok (.invokevirtual 53, 3) := dd_at dd_La_law 145 rfl
theorem d_La_law_300 : decode code 300 = .ok (.iload 6, 2) := dd_at dd_La_law 146 rfl
theorem d_La_law_302 : decode code 302 = .ok (.if_icmp .eq (5), 3) := dd_at dd_La_law 147 rfl
theorem d_La_law_305 : decode code 305 = .ok (.iconst 0, 1) := dd_at dd_La_law 148 rfl
theorem d_La_law_306 : decode code 306 = .ok (.ireturn, 1) := dd_at dd_La_law 149 rfl
theorem d_La_law_307 : decode code 307 = .ok (.iload 6, 2) := dd_at dd_La_law 150 rfl
theorem d_La_law_309 : decode code 309 = .ok (.ifCond .ne (35), 3) := dd_at dd_La_law 151 rfl
theorem d_La_law_312 : decode code 312 = .ok (.aload 4, 2) := dd_at dd_La_law 152 rfl
theorem d_La_law_314 : decode code 314 = .ok (.iconst 0, 1) := dd_at dd_La_law 153 rfl
theorem d_La_law_315 : decode code 315 = .ok (.daload, 1) := dd_at dd_La_law 154 rfl
theorem d_La_law_316 : decode code 316 = .ok (.dload 7, 2) := dd_at dd_La_law 155 rfl
theorem d_La_law_318 : decode code 318 = .ok (.dcmp .l, 1) := dd_at dd_La_law 156 rfl
theorem d_La_law_319 : decode code 319 = .ok (.ifCond .eq (25), 3) := dd_at dd_La_law 157 rfl
theorem d_La_law_322 : decode code 322 = .ok (.aload 4, 2) := dd_at dd_La_law 158 rfl
theorem d_La_law_324 : decode code 324 = .ok (.iconst 0, 1) := dd_at dd_La_law 159 rfl
theorem d_La_law_325 : decode code 325 = .ok (.daload, 1) := dd_at dd_La_law 160 rfl
theorem d_La_law_326 : decode code 326 = .ok (.aload 4, 2) := dd_at dd_La_law 161 rfl
theorem d_La_law_328 : decode code 328 = .ok (.iconst 0, 1) := dd_at dd_La_law 162 rfl
theorem d_La_law_329 : decode code 329 = .ok (.daload, 1) := dd_at dd_La_law 163 rfl
theorem d_La_law_330 : decode code 330 = .ok (.dcmp .l, 1) := dd_at dd_La_law 164 rfl
theorem d_La_law_331 : decode code 331 = .ok (.ifCond .eq (11), 3) := dd_at dd_La_law 165 rfl
theorem d_La_law_334 : decode code 334 = .ok (.dload 7, 2) := dd_at dd_La_law 166 rfl
theorem d_La_law_336 : decode code 336 = .ok (.dload 7, 2) := dd_at dd_La_law 167 rfl
theorem d_La_law_338 : decode code 338 = .ok (.dcmp .l, 1) := dd_at dd_La_law 168 rfl
theorem d_La_law_339 : decode code 339 = .ok (.ifCond .ne (5), 3) := dd_at dd_La_law 169 rfl
theorem d_La_law_342 : decode code 342 = .ok (.iconst 0, 1) := dd_at dd_La_law 170 rfl
theorem d_La_law_343 : decode code 343 = .ok (.ireturn, 1) := dd_at dd_La_law 171 rfl
theorem d_La_law_344 : decode code 344 = .ok (.goto (219), 3) := dd_at dd_La_law 172 rfl
theorem d_La_law_347 : decode code 347 = .ok (.aload_n 1, 1) := dd_at dd_La_law 173 rfl
theorem d_La_law_348 : decode code 348 = .ok (.aload_n 0, 1) := dd_at dd_La_law 174 rfl
theorem d_La_law_349 : decode code 349 = .ok (.iload 5, 2) := dd_at dd_La_law 175 rfl
theorem d_La_law_351 : decode code 351 = .ok (.iconst 1, 1) := dd_at dd_La_law 176 rfl
theorem d_La_law_352 : decode code 352 = .ok (.iadd, 1) := dd_at dd_La_law 177 rfl
theorem d_La_law_353 : decode code 353 = .ok (.iaload, 1) := dd_at dd_La_law 178 rfl
theorem d_La_law_354 : decode code 354 = .ok (.aload 4, 2) := dd_at dd_La_law 179 rfl
theorem d_La_law_356 : decode code 356 = .ok (.invokestatic 75, 3) := dd_at dd_La_law 180 rfl
theorem d_La_law_359 : decode code 359 = .ok (.istore 6, 2) := dd_at dd_La_law 181 rfl
theorem d_La_law_361 : decode code 361 = .ok (.aload_n 2, 1) := dd_at dd_La_law 182 rfl
theorem d_La_law_362 : decode code 362 = .ok (.aload_n 0, 1) := dd_at dd_La_law 183 rfl
theorem d_La_law_363 : decode code 363 = .ok (.iload 5, 2) := dd_at dd_La_law 184 rfl
theorem d_La_law_365 : decode code 365 = .ok (.iconst 1, 1) := dd_at dd_La_law 185 rfl
theorem d_La_law_366 : decode code 366 = .ok (.iadd, 1) := dd_at dd_La_law 186 rfl
theorem d_La_law_367 : decode code 367 = .ok (.iaload, 1) := dd_at dd_La_law 187 rfl
theorem d_La_law_368 : decode code 368 = .ok (.invokevirtual 77, 3) := dd_at dd_La_law 188 rfl
theorem d_La_law_371 : decode code 371 = .ok (.dstore 7, 2) := dd_at dd_La_law 189 rfl
theorem d_La_law_373 : decode code 373 = .ok (.aload_n 2, 1) := dd_at dd_La_law 190 rfl
theorem d_La_law_374 : decode code 374 = .ok (.invokevirtual 53, 3) := dd_at dd_La_law 191 rfl
theorem d_La_law_377 : decode code 377 = .ok (.iload 6, 2) := dd_at dd_La_law 192 rfl
theorem d_La_law_379 : decode code 379 = .ok (.if_icmp .eq (5), 3) := dd_at dd_La_law 193 rfl
theorem d_La_law_382 : decode code 382 = .ok (.iconst 0, 1) := dd_at dd_La_law 194 rfl
theorem d_La_law_383 : decode code 383 = .ok (.ireturn, 1) := dd_at dd_La_law 195 rfl
theorem d_La_law_384 : decode code 384 = .ok (.iload 6, 2) := dd_at dd_La_law 196 rfl
theorem d_La_law_386 : decode code 386 = .ok (.ifCond .ne (35), 3) := dd_at dd_La_law 197 rfl
theorem d_La_law_389 : decode code 389 = .ok (.aload 4, 2) := dd_at dd_La_law 198 rfl
theorem d_La_law_391 : decode code 391 = .ok (.iconst 0, 1) := dd_at dd_La_law 199 rfl
theorem d_La_law_392 : decode code 392 = .ok (.daload, 1) := dd_at dd_La_law 200 rfl
theorem d_La_law_393 : decode code 393 = .ok (.dload 7, 2) := dd_at dd_La_law 201 rfl
theorem d_La_law_395 : decode code 395 = .ok (.dcmp .l, 1) := dd_at dd_La_law 202 rfl
theorem d_La_law_396 : decode code 396 = .ok (.ifCond .eq (25), 3) := dd_at dd_La_law 203 rfl
theorem d_La_law_399 : decode code 399 = .ok (.aload 4, 2) := dd_at dd_La_law 204 rfl
theorem d_La_law_401 : decode code 401 = .ok (.iconst 0, 1) := dd_at dd_La_law 205 rfl
theorem d_La_law_402 : decode code 402 = .ok (.daload, 1) := dd_at dd_La_law 206 rfl
theorem d_La_law_403 : decode code 403 = .ok (.aload 4, 2) := dd_at dd_La_law 207 rfl
theorem d_La_law_405 : decode code 405 = .ok (.iconst 0, 1) := dd_at dd_La_law 208 rfl
theorem d_La_law_406 : decode code 406 = .ok (.daload, 1) := dd_at dd_La_law 209 rfl
theorem d_La_law_407 : decode code 407 = .ok (.dcmp .l, 1) := dd_at dd_La_law 210 rfl
theorem d_La_law_408 : decode code 408 = .ok (.ifCond .eq (11), 3) := dd_at dd_La_law 211 rfl
theorem d_La_law_411 : decode code 411 = .ok (.dload 7, 2) := dd_at dd_La_law 212 rfl
theorem d_La_law_413 : decode code 413 = .ok (.dload 7, 2) := dd_at dd_La_law 213 rfl
theorem d_La_law_415 : decode code 415 = .ok (.dcmp .l, 1) := dd_at dd_La_law 214 rfl
theorem d_La_law_416 : decode code 416 = .ok (.ifCond .ne (5), 3) := dd_at dd_La_law 215 rfl
theorem d_La_law_419 : decode code 419 = .ok (.iconst 0, 1) := dd_at dd_La_law 216 rfl
theorem d_La_law_420 : decode code 420 = .ok (.ireturn, 1) := dd_at dd_La_law 217 rfl
theorem d_La_law_421 : decode code 421 = .ok (.goto (142), 3) := dd_at dd_La_law 218 rfl
theorem d_La_law_424 : decode code 424 = .ok (.aload_n 1, 1) := dd_at dd_La_law 219 rfl
theorem d_La_law_425 : decode code 425 = .ok (.aload_n 0, 1) := dd_at dd_La_law 220 rfl
theorem d_La_law_426 : decode code 426 = .ok (.iload 5, 2) := dd_at dd_La_law 221 rfl
theorem d_La_law_428 : decode code 428 = .ok (.iconst 1, 1) := dd_at dd_La_law 222 rfl
theorem d_La_law_429 : decode code 429 = .ok (.iadd, 1) := dd_at dd_La_law 223 rfl
theorem d_La_law_430 : decode code 430 = .ok (.iaload, 1) := dd_at dd_La_law 224 rfl
theorem d_La_law_431 : decode code 431 = .ok (.aload_n 0, 1) := dd_at dd_La_law 225 rfl
theorem d_La_law_432 : decode code 432 = .ok (.iload 5, 2) := dd_at dd_La_law 226 rfl
theorem d_La_law_434 : decode code 434 = .ok (.iconst 2, 1) := dd_at dd_La_law 227 rfl
theorem d_La_law_435 : decode code 435 = .ok (.iadd, 1) := dd_at dd_La_law 228 rfl
theorem d_La_law_436 : decode code 436 = .ok (.iaload, 1) := dd_at dd_La_law 229 rfl
theorem d_La_law_437 : decode code 437 = .ok (.aload_n 0, 1) := dd_at dd_La_law 230 rfl
theorem d_La_law_438 : decode code 438 = .ok (.iload 5, 2) := dd_at dd_La_law 231 rfl
theorem d_La_law_440 : decode code 440 = .ok (.iconst 3, 1) := dd_at dd_La_law 232 rfl
theorem d_La_law_441 : decode code 441 = .ok (.iadd, 1) := dd_at dd_La_law 233 rfl
theorem d_La_law_442 : decode code 442 = .ok (.iaload, 1) := dd_at dd_La_law 234 rfl
theorem d_La_law_443 : decode code 443 = .ok (.aload 4, 2) := dd_at dd_La_law 235 rfl
theorem d_La_law_445 : decode code 445 = .ok (.invokestatic 78, 3) := dd_at dd_La_law 236 rfl
theorem d_La_law_448 : decode code 448 = .ok (.istore 6, 2) := dd_at dd_La_law 237 rfl
theorem d_La_law_450 : decode code 450 = .ok (.aload_n 2, 1) := dd_at dd_La_law 238 rfl
theorem d_La_law_451 : decode code 451 = .ok (.aload_n 0, 1) := dd_at dd_La_law 239 rfl
theorem d_La_law_452 : decode code 452 = .ok (.iload 5, 2) := dd_at dd_La_law 240 rfl
theorem d_La_law_454 : decode code 454 = .ok (.iconst 1, 1) := dd_at dd_La_law 241 rfl
theorem d_La_law_455 : decode code 455 = .ok (.iadd, 1) := dd_at dd_La_law 242 rfl
theorem d_La_law_456 : decode code 456 = .ok (.iaload, 1) := dd_at dd_La_law 243 rfl
theorem d_La_law_457 : decode code 457 = .ok (.aload_n 0, 1) := dd_at dd_La_law 244 rfl
theorem d_La_law_458 : decode code 458 = .ok (.iload 5, 2) := dd_at dd_La_law 245 rfl
theorem d_La_law_460 : decode code 460 = .ok (.iconst 2, 1) := dd_at dd_La_law 246 rfl
theorem d_La_law_461 : decode code 461 = .ok (.iadd, 1) := dd_at dd_La_law 247 rfl
theorem d_La_law_462 : decode code 462 = .ok (.iaload, 1) := dd_at dd_La_law 248 rfl
theorem d_La_law_463 : decode code 463 = .ok (.aload_n 0, 1) := dd_at dd_La_law 249 rfl
theorem d_La_law_464 : decode code 464 = .ok (.iload 5, 2) := dd_at dd_La_law 250 rfl
theorem d_La_law_466 : decode code 466 = .ok (.iconst 3, 1) := dd_at dd_La_law 251 rfl
theorem d_La_law_467 : decode code 467 = .ok (.iadd, 1) := dd_at dd_La_law 252 rfl
theorem d_La_law_468 : decode code 468 = .ok (.iaload, 1) := dd_at dd_La_law 253 rfl
theorem d_La_law_469 : decode code 469 = .ok (.invokevirtual 81, 3) := dd_at dd_La_law 254 rfl
theorem d_La_law_472 : decode code 472 = .ok (.dstore 7, 2) := dd_at dd_La_law 255 rfl
theorem d_La_law_474 : decode code 474 = .ok (.aload_n 2, 1) := dd_at dd_La_law 256 rfl
theorem d_La_law_475 : decode code 475 = .ok (.invokevirtual 53, 3) := dd_at dd_La_law 257 rfl
theorem d_La_law_478 : decode code 478 = .ok (.iload 6, 2) := dd_at dd_La_law 258 rfl
theorem d_La_law_480 : decode code 480 = .ok (.if_icmp .eq (5), 3) := dd_at dd_La_law 259 rfl
theorem d_La_law_483 : decode code 483 = .ok (.iconst 0, 1) := dd_at dd_La_law 260 rfl
theorem d_La_law_484 : decode code 484 = .ok (.ireturn, 1) := dd_at dd_La_law 261 rfl
theorem d_La_law_485 : decode code 485 = .ok (.iload 6, 2) := dd_at dd_La_law 262 rfl
theorem d_La_law_487 : decode code 487 = .ok (.ifCond .ne (35), 3) := dd_at dd_La_law 263 rfl
theorem d_La_law_490 : decode code 490 = .ok (.aload 4, 2) := dd_at dd_La_law 264 rfl
theorem d_La_law_492 : decode code 492 = .ok (.iconst 0, 1) := dd_at dd_La_law 265 rfl
theorem d_La_law_493 : decode code 493 = .ok (.daload, 1) := dd_at dd_La_law 266 rfl
theorem d_La_law_494 : decode code 494 = .ok (.dload 7, 2) := dd_at dd_La_law 267 rfl
theorem d_La_law_496 : decode code 496 = .ok (.dcmp .l, 1) := dd_at dd_La_law 268 rfl
theorem d_La_law_497 : decode code 497 = .ok (.ifCond .eq (25), 3) := dd_at dd_La_law 269 rfl
theorem d_La_law_500 : decode code 500 = .ok (.aload 4, 2) := dd_at dd_La_law 270 rfl
theorem d_La_law_502 : decode code 502 = .ok (.iconst 0, 1) := dd_at dd_La_law 271 rfl
theorem d_La_law_503 : decode code 503 = .ok (.daload, 1) := dd_at dd_La_law 272 rfl
theorem d_La_law_504 : decode code 504 = .ok (.aload 4, 2) := dd_at dd_La_law 273 rfl
theorem d_La_law_506 : decode code 506 = .ok (.iconst 0, 1) := dd_at dd_La_law 274 rfl
theorem d_La_law_507 : decode code 507 = .ok (.daload, 1) := dd_at dd_La_law 275 rfl
theorem d_La_law_508 : decode code 508 = .ok (.dcmp .l, 1) := dd_at dd_La_law 276 rfl
theorem d_La_law_509 : decode code 509 = .ok (.ifCond .eq (11), 3) := dd_at dd_La_law 277 rfl
theorem d_La_law_512 : decode code 512 = .ok (.dload 7, 2) := dd_at dd_La_law 278 rfl
theorem d_La_law_514 : decode code 514 = .ok (.dload 7, 2) := dd_at dd_La_law 279 rfl
theorem d_La_law_516 : decode code 516 = .ok (.dcmp .l, 1) := dd_at dd_La_law 280 rfl
theorem d_La_law_517 : decode code 517 = .ok (.ifCond .ne (5), 3) := dd_at dd_La_law 281 rfl
theorem d_La_law_520 : decode code 520 = .ok (.iconst 0, 1) := dd_at dd_La_law 282 rfl
theorem d_La_law_521 : decode code 521 = .ok (.ireturn, 1) := dd_at dd_La_law 283 rfl
theorem d_La_law_522 : decode code 522 = .ok (.goto (41), 3) := dd_at dd_La_law 284 rfl
theorem d_La_law_525 : decode code 525 = .ok (.aload_n 1, 1) := dd_at dd_La_law 285 rfl
theorem d_La_law_526 : decode code 526 = .ok (.invokevirtual 82, 3) := dd_at dd_La_law 286 rfl
theorem d_La_law_529 : decode code 529 = .ok (.aload_n 2, 1) := dd_at dd_La_law 287 rfl
theorem d_La_law_530 : decode code 530 = .ok (.invokevirtual 85, 3) := dd_at dd_La_law 288 rfl
theorem d_La_law_533 : decode code 533 = .ok (.if_icmp .eq (30), 3) := dd_at dd_La_law 289 rfl
theorem d_La_law_536 : decode code 536 = .ok (.iconst 0, 1) := dd_at dd_La_law 290 rfl
theorem d_La_law_537 : decode code 537 = .ok (.ireturn, 1) := dd_at dd_La_law 291 rfl
theorem d_La_law_538 : decode code 538 = .ok (.aload_n 1, 1) := dd_at dd_La_law 292 rfl
theorem d_La_law_539 : decode code 539 = .ok (.aload_n 0, 1) := dd_at dd_La_law 293 rfl
theorem d_La_law_540 : decode code 540 = .ok (.iload 5, 2) := dd_at dd_La_law 294 rfl
theorem d_La_law_542 : decode code 542 = .ok (.iconst 1, 1) := dd_at dd_La_law 295 rfl
theorem d_La_law_543 : decode code 543 = .ok (.iadd, 1) := dd_at dd_La_law 296 rfl
theorem d_La_law_544 : decode code 544 = .ok (.iaload, 1) := dd_at dd_La_law 297 rfl
theorem d_La_law_545 : decode code 545 = .ok (.invokevirtual 86, 3) := dd_at dd_La_law 298 rfl
theorem d_La_law_548 : decode code 548 = .ok (.aload_n 2, 1) := dd_at dd_La_law 299 rfl
theorem d_La_law_549 : decode code 549 = .ok (.aload_n 0, 1) := dd_at dd_La_law 300 rfl
theorem d_La_law_550 : decode code 550 = .ok (.iload 5, 2) := dd_at dd_La_law 301 rfl
theorem d_La_law_552 : decode code 552 = .ok (.iconst 1, 1) := dd_at dd_La_law 302 rfl
theorem d_La_law_553 : decode code 553 = .ok (.iadd, 1) := dd_at dd_La_law 303 rfl
theorem d_La_law_554 : decode code 554 = .ok (.iaload, 1) := dd_at dd_La_law 304 rfl
theorem d_La_law_555 : decode code 555 = .ok (.invokevirtual 89, 3) := dd_at dd_La_law 305 rfl
theorem d_La_law_558 : decode code 558 = .ok (.if_icmp .eq (5), 3) := dd_at dd_La_law 306 rfl
theorem d_La_law_561 : decode code 561 = .ok (.iconst 0, 1) := dd_at dd_La_law 307 rfl
theorem d_La_law_562 : decode code 562 = .ok (.ireturn, 1) := dd_at dd_La_law 308 rfl
theorem d_La_law_563 : decode code 563 = .ok (.iinc 5 (4), 3) := dd_at dd_La_law 309 rfl
theorem d_La_law_566 : decode code 566 = .ok (.goto (-538), 3) := dd_at dd_La_law 310 rfl
theorem d_La_law_569 : decode code 569 = .ok (.iconst 1, 1) := dd_at dd_La_law 311 rfl
theorem d_La_law_570 : decode code 570 = .ok (.ireturn, 1) := dd_at dd_La_law 312 rfl
theorem lk_La_52 : Cond.methodLink "BasicMachineLaw" 52 y_Mo_type ∈ gtb := in_tbl 1305 (by decide +kernel)
theorem mf_Mo_type : MFi y_Mo_type prog_14_method_5_code 2 (some .int) 1 := ⟨in_tbl 1308 (by decide +kernel), in_tbl 1306 (by decide +kernel), in_tbl 1307 (by decide +kernel), in_tbl 13 (by decide +kernel), by decide, by decide, by decide +kernel⟩
theorem lk_La_53 : Cond.methodLink "BasicMachineLaw" 53 y_Mo_thrown ∈ gtb := in_tbl 1301 (by decide +kernel)
theorem mf_Mo_thrown : MFi y_Mo_thrown prog_14_method_2_code 1 (some .int) 0 := ⟨in_tbl 1304 (by decide +kernel), in_tbl 1302 (by decide +kernel), in_tbl 1303 (by decide +kernel), in_tbl 13 (by decide +kernel), by decide, by decide, by decide +kernel⟩
theorem lk_La_59 : Cond.methodLink "BasicMachineLaw" 59 y_Mo_enter ∈ gtb := in_tbl 1317 (by decide +kernel)
theorem mf_Mo_enter : MFi y_Mo_enter prog_14_method_43_code 3 (some .int) 0 := ⟨in_tbl 1320 (by decide +kernel), in_tbl 1318 (by decide +kernel), in_tbl 1319 (by decide +kernel), in_tbl 13 (by decide +kernel), by decide, by decide, by decide +kernel⟩
theorem lk_La_60 : Cond.methodLink "BasicMachineLaw" 60 y_BM_errorAt ∈ gtb := in_tbl 321 (by decide +kernel)
theorem mf_BM_errorAt : MFi y_BM_errorAt prog_1_method_4_code 1 (some .int) 0 := ⟨in_tbl 324 (by decide +kernel), in_tbl 322 (by decide +kernel), in_tbl 323 (by decide +kernel), in_tbl 1 (by decide +kernel), by decide, by decide, by decide +kernel⟩
theorem lk_La_63 : Cond.methodLink "BasicMachineLaw" 63 y_Mo_errorAt ∈ gtb := in_tbl 1502 (by decide +kernel)
theorem mf_Mo_errorAt : MFi y_Mo_errorAt prog_14_method_45_code 1 (some .int) 0 := ⟨in_tbl 1505 (by decide +kernel), in_tbl 1503 (by decide +kernel), in_tbl 1504 (by decide +kernel), in_tbl 13 (by decide +kernel), by decide, by decide, by decide +kernel⟩
theorem lk_La_64 : Cond.methodLink "BasicMachineLaw" 64 y_BM_wipe ∈ gtb := in_tbl 325 (by decide +kernel)
theorem mf_BM_wipe : MFi y_BM_wipe prog_1_method_5_code 2 (some .int) 0 := ⟨in_tbl 328 (by decide +kernel), in_tbl 326 (by decide +kernel), in_tbl 327 (by decide +kernel), in_tbl 1 (by decide +kernel), by decide, by decide, by decide +kernel⟩
theorem lk_La_67 : Cond.methodLink "BasicMachineLaw" 67 y_Mo_wipe ∈ gtb := in_tbl 1506 (by decide +kernel)
theorem mf_Mo_wipe : MFi y_Mo_wipe prog_14_method_46_code 3 (some .int) 0 := ⟨in_tbl 1509 (by decide +kernel), in_tbl 1507 (by decide +kernel), in_tbl 1508 (by decide +kernel), in_tbl 13 (by decide +kernel), by decide, by decide, by decide +kernel⟩
theorem lk_La_70 : Cond.methodLink "BasicMachineLaw" 70 y_Mo_run ∈ gtb := in_tbl 1510 (by decide +kernel)
theorem mf_Mo_run : MFi y_Mo_run prog_14_method_75_code 2 (some .int) 0 := ⟨in_tbl 1513 (by decide +kernel), in_tbl 1511 (by decide +kernel), in_tbl 1512 (by decide +kernel), in_tbl 13 (by decide +kernel), by decide, by decide, by decide +kernel⟩
theorem lk_La_74 : Cond.methodLink "BasicMachineLaw" 74 y_Mo_printed ∈ gtb := in_tbl 1632 (by decide +kernel)
theorem mf_Mo_printed : MFi y_Mo_printed prog_14_method_76_code 2 (some .double) 1 := ⟨in_tbl 1635 (by decide +kernel), in_tbl 1633 (by decide +kernel), in_tbl 1634 (by decide +kernel), in_tbl 13 (by decide +kernel), by decide, by decide, by decide +kernel⟩
theorem lk_La_77 : Cond.methodLink "BasicMachineLaw" 77 y_Mo_variable1 ∈ gtb := in_tbl 1636 (by decide +kernel)
theorem mf_Mo_variable1 : MFi y_Mo_variable1 prog_14_method_77_code 2 (some .double) 1 := ⟨in_tbl 1639 (by decide +kernel), in_tbl 1637 (by decide +kernel), in_tbl 1638 (by decide +kernel), in_tbl 13 (by decide +kernel), by decide, by decide, by decide +kernel⟩
theorem lk_La_81 : Cond.methodLink "BasicMachineLaw" 81 y_Mo_element ∈ gtb := in_tbl 1640 (by decide +kernel)
theorem mf_Mo_element : MFi y_Mo_element prog_14_method_78_code 4 (some .double) 3 := ⟨in_tbl 1643 (by decide +kernel), in_tbl 1641 (by decide +kernel), in_tbl 1642 (by decide +kernel), in_tbl 13 (by decide +kernel), by decide, by decide, by decide +kernel⟩
theorem lk_La_82 : Cond.methodLink "BasicMachineLaw" 82 y_BM_at ∈ gtb := in_tbl 329 (by decide +kernel)
theorem mf_BM_at : MFi y_BM_at prog_1_method_10_code 1 (some .int) 0 := ⟨in_tbl 332 (by decide +kernel), in_tbl 330 (by decide +kernel), in_tbl 331 (by decide +kernel), in_tbl 1 (by decide +kernel), by decide, by decide, by decide +kernel⟩
theorem lk_La_85 : Cond.methodLink "BasicMachineLaw" 85 y_Mo_at ∈ gtb := in_tbl 1644 (by decide +kernel)
theorem mf_Mo_at : MFi y_Mo_at prog_14_method_79_code 1 (some .int) 0 := ⟨in_tbl 1647 (by decide +kernel), in_tbl 1645 (by decide +kernel), in_tbl 1646 (by decide +kernel), in_tbl 13 (by decide +kernel), by decide, by decide, by decide +kernel⟩
theorem lk_La_86 : Cond.methodLink "BasicMachineLaw" 86 y_BM_count ∈ gtb := in_tbl 333 (by decide +kernel)
theorem mf_BM_count : MFi y_BM_count prog_1_method_11_code 2 (some .int) 1 := ⟨in_tbl 336 (by decide +kernel), in_tbl 334 (by decide +kernel), in_tbl 335 (by decide +kernel), in_tbl 1 (by decide +kernel), by decide, by decide, by decide +kernel⟩
theorem lk_La_89 : Cond.methodLink "BasicMachineLaw" 89 y_Mo_count ∈ gtb := in_tbl 1648 (by decide +kernel)
theorem mf_Mo_count : MFi y_Mo_count prog_14_method_81_code 2 (some .int) 1 := ⟨in_tbl 1651 (by decide +kernel), in_tbl 1649 (by decide +kernel), in_tbl 1650 (by decide +kernel), in_tbl 13 (by decide +kernel), by decide, by decide, by decide +kernel⟩
/-- what the law's walk knows between two calls: n turns more -/
def LawC (X : CXT) (E : EVT) (n : Nat) : Prop := Gd X E "BasicMachineLaw" code ∧ Rm X 2000 80000 ∧ (xl X).stackTraces = false ∧ xcells X + n ≤ (xR X).cells ∧ xslots X + 6 * n ≤ (xR X).slots
theorem LawC_gd {X : CXT} {E : EVT} {n : Nat} (h : LawC X E n) : Gd X E "BasicMachineLaw" code := h.1
theorem LawC_up {X : CXT} {E : EVT} {n : Nat} (h : LawC X E (n + 1)) : LawC (up1 X) E n := ⟨h.1, ⟨h.2.1.1, h.2.1.2.1, by have := h.2.2.2.1; show xcells X + 1 ≤ (xR X).cells; omega, by have := h.2.2.2.2; show xslots X + 6 ≤ (xR X).slots; omega⟩, h.2.2.1, by have := h.2.2.2.1; show xcells X + 1 + n ≤ (xR X).cells; omega, by have := h.2.2.2.2; show xslots X + 6 + 6 * n ≤ (xR X).slots; omega⟩
theorem LawC_dn {X : CXT} {E : EVT} {n : Nat} (h : LawC X E (n + 1)) : LawC X E n := ⟨h.1, h.2.1, h.2.2.1, by have := h.2.2.2.1; omega, by have := h.2.2.2.2; omega⟩
theorem lkl_La_type : Cond.methodLink "BasicMachineLaw" 47 y_La_type ∈ gtb := in_tbl 345 (by decide +kernel)
theorem mfl_La_type : Cond.codeWith y_La_type method_3_code 4 (some .int) [(0, 9, 12, 13), (0, 9, 15, 15)] ∈ gtb ∧ Cond.static y_La_type ∈ gtb ∧ Cond.initialized y_La_type.cls ∈ gtb ∧ y_La_type.cls ≠ "java/lang/invoke/MethodHandle" ∧ y_La_type.cls ≠ "java/lang/invoke/VarHandle" ∧ (parseMethodDescriptor y_La_type.desc).map (fun d => d.parameters.length) = some 3 := ⟨in_tbl 347 (by decide +kernel), in_tbl 346 (by decide +kernel), in_tbl 0 (by decide +kernel), by decide, by decide, by decide +kernel⟩
theorem lkl_La_enter : Cond.methodLink "BasicMachineLaw" 56 y_La_enter ∈ gtb := in_tbl 441 (by decide +kernel)
theorem mfl_La_enter : Cond.codeWith y_La_enter method_4_code 3 (some .int) [(0, 8, 11, 13), (0, 8, 14, 21), (0, 8, 17, 15)] ∈ gtb ∧ Cond.static y_La_enter ∈ gtb ∧ Cond.initialized y_La_enter.cls ∈ gtb ∧ y_La_enter.cls ≠ "java/lang/invoke/MethodHandle" ∧ y_La_enter.cls ≠ "java/lang/invoke/VarHandle" ∧ (parseMethodDescriptor y_La_enter.desc).map (fun d => d.parameters.length) = some 2 := ⟨in_tbl 443 (by decide +kernel), in_tbl 442 (by decide +kernel), in_tbl 0 (by decide +kernel), by decide, by decide, by decide +kernel⟩
theorem lkl_La_run : Cond.methodLink "BasicMachineLaw" 68 y_La_run ∈ gtb := in_tbl 765 (by decide +kernel)
theorem mfl_La_run : Cond.codeWith y_La_run method_5_code 3 (some .int) [(0, 8, 11, 13), (0, 8, 14, 15), (0, 8, 17, 21), (0, 8, 20, 26), (0, 8, 23, 28), (0, 8, 26, 30)] ∈ gtb ∧ Cond.static y_La_run ∈ gtb ∧ Cond.initialized y_La_run.cls ∈ gtb ∧ y_La_run.cls ≠ "java/lang/invoke/MethodHandle" ∧ y_La_run.cls ≠ "java/lang/invoke/VarHandle" ∧ (parseMethodDescriptor y_La_run.desc).map (fun d => d.parameters.length) = some 2 := ⟨in_tbl 767 (by decide +kernel), in_tbl 766 (by decide +kernel), in_tbl 0 (by decide +kernel), by decide, by decide, by decide +kernel⟩
theorem lkl_La_printed : Cond.methodLink "BasicMachineLaw" 71 y_La_printed ∈ gtb := in_tbl 1130 (by decide +kernel)
theorem mfl_La_printed : Cond.codeWith y_La_printed method_6_code 4 (some .int) [(0, 8, 11, 21)] ∈ gtb ∧ Cond.static y_La_printed ∈ gtb ∧ Cond.initialized y_La_printed.cls ∈ gtb ∧ y_La_printed.cls ≠ "java/lang/invoke/MethodHandle" ∧ y_La_printed.cls ≠ "java/lang/invoke/VarHandle" ∧ (parseMethodDescriptor y_La_printed.desc).map (fun d => d.parameters.length) = some 3 := ⟨in_tbl 1132 (by decide +kernel), in_tbl 1131 (by decide +kernel), in_tbl 0 (by decide +kernel), by decide, by decide, by decide +kernel⟩
theorem lkl_La_variable : Cond.methodLink "BasicMachineLaw" 75 y_La_variable ∈ gtb := in_tbl 1138 (by decide +kernel)
theorem mfl_La_variable : Cond.codeWith y_La_variable method_7_code 4 (some .int) [(0, 8, 11, 13)] ∈ gtb ∧ Cond.static y_La_variable ∈ gtb ∧ Cond.initialized y_La_variable.cls ∈ gtb ∧ y_La_variable.cls ≠ "java/lang/invoke/MethodHandle" ∧ y_La_variable.cls ≠ "java/lang/invoke/VarHandle" ∧ (parseMethodDescriptor y_La_variable.desc).map (fun d => d.parameters.length) = some 3 := ⟨in_tbl 1140 (by decide +kernel), in_tbl 1139 (by decide +kernel), in_tbl 0 (by decide +kernel), by decide, by decide, by decide +kernel⟩
theorem lkl_La_element : Cond.methodLink "BasicMachineLaw" 78 y_La_element ∈ gtb := in_tbl 1148 (by decide +kernel)
theorem mfl_La_element : Cond.codeWith y_La_element method_8_code 6 (some .int) [(0, 11, 14, 13), (0, 11, 18, 28)] ∈ gtb ∧ Cond.static y_La_element ∈ gtb ∧ Cond.initialized y_La_element.cls ∈ gtb ∧ y_La_element.cls ≠ "java/lang/invoke/MethodHandle" ∧ y_La_element.cls ≠ "java/lang/invoke/VarHandle" ∧ (parseMethodDescriptor y_La_element.desc).map (fun d => d.parameters.length) = some 5 := ⟨in_tbl 1150 (by decide +kernel), in_tbl 1149 (by decide +kernel), in_tbl 0 (by decide +kernel), by decide, by decide, by decide +kernel⟩
def wp_turn (L : Nat) (zs : Nat → Int32) (i : Int32) (A : Mem) (K : Mem → Prop) : Prop := vp_in i L ∧ ((((zs (Int32.toNatClampNeg i)) &&& 15) = 0 → vp_in (i + 1) L ∧ wp_La_type (zs (Int32.toNatClampNeg (i + 1))) A (fun (r4 : Int32) (A3 : Mem) => vp_in (i + 1) L ∧ kd 250 = 9 ∧ wp_Mo_type 250 (zs (Int32.toNatClampNeg (i + 1))) A3 (fun (r7 : Int32) (A6 : Mem) => wp_Mo_thrown 250 A6 (fun (r10 : Int32) (A9 : Mem) => ((r10 = r4 → ((¬ r4 = 0 → K A9) ∧ (r4 = 0 → kd 28 = 54 ∧ vp_in 0 (al 28) ∧ (((lg_cmp (gL A9 28 (Int32.toNatClampNeg 0)) (Int32.toInt64 r7)) = 0 → K A9) ∧ (¬ (lg_cmp (gL A9 28 (Int32.toNatClampNeg 0)) (Int32.toInt64 r7)) = 0 → False))))) ∧ (¬ r10 = r4 → False)))))) ∧ (((zs (Int32.toNatClampNeg i)) &&& 15) = 1 → wp_La_enter  A (fun (r14 : Int32) (A13 : Mem) => kd 250 = 9 ∧ wp_Mo_enter 250 A13 (fun (r16 : Int32) (A15 : Mem) => wp_Mo_thrown 250 A15 (fun (r19 : Int32) (A18 : Mem) => ((r19 = r14 → ((¬ r14 = 0 → K A18) ∧ (r14 = 0 → kd 28 = 54 ∧ vp_in 0 (al 28) ∧ (((lg_cmp (gL A18 28 (Int32.toNatClampNeg 0)) (Int32.toInt64 r16)) = 0 → K A18) ∧ (¬ (lg_cmp (gL A18 28 (Int32.toNatClampNeg 0)) (Int32.toInt64 r16)) = 0 → False))))) ∧ (¬ r19 = r14 → False)))))) ∧ (((zs (Int32.toNatClampNeg i)) &&& 15) = 2 → kd 1 = 1 ∧ wp_BM_errorAt 1 A (fun (r23 : Int32) (A22 : Mem) => kd 250 = 9 ∧ wp_Mo_errorAt 250 A22 (fun (r26 : Int32) (A25 : Mem) => ((r23 = r26 → K A25) ∧ (¬ r23 = r26 → False))))) ∧ (((zs (Int32.toNatClampNeg i)) &&& 15) = 3 → kd 1 = 1 ∧ wp_BM_wipe 1 A (fun (r29 : Int32) (A28 : Mem) => kd 250 = 9 ∧ wp_Mo_wipe 250 A28 (fun (r32 : Int32) (A31 : Mem) => ((r29 = r32 → K A31) ∧ (¬ r29 = r32 → False))))) ∧ (((zs (Int32.toNatClampNeg i)) &&& 15) = 4 → wp_La_run  A (fun (r35 : Int32) (A34 : Mem) => kd 250 = 9 ∧ wp_Mo_run 250 A34 (fun (r37 : Int32) (A36 : Mem) => wp_Mo_thrown 250 A36 (fun (r40 : Int32) (A39 : Mem) => ((r40 = r35 → ((¬ r35 = 0 → K A39) ∧ (r35 = 0 → kd 28 = 54 ∧ vp_in 0 (al 28) ∧ (((lg_cmp (gL A39 28 (Int32.toNatClampNeg 0)) (Int32.toInt64 r37)) = 0 → K A39) ∧ (¬ (lg_cmp (gL A39 28 (Int32.toNatClampNeg 0)) (Int32.toInt64 r37)) = 0 → False))))) ∧ (¬ r40 = r35 → False)))))) ∧ (((zs (Int32.toNatClampNeg i)) &&& 15) = 5 → vp_in (i + 1) L ∧ wp_La_printed (zs (Int32.toNatClampNeg (i + 1))) A (fun (r45 : Int32) (A44 : Mem) => vp_in (i + 1) L ∧ kd 250 = 9 ∧ wp_Mo_printed 250 (zs (Int32.toNatClampNeg (i + 1))) A44 (fun (r48 : UInt64) (A47 : Mem) => wp_Mo_thrown 250 A47 (fun (r51 : Int32) (A50 : Mem) => ((r51 = r45 → ((¬ r45 = 0 → K A50) ∧ (r45 = 0 → kd 29 = 53 ∧ vp_in 0 (al 29) ∧ (((Op.cmpValue (FP.dcmp (gD A50 29 (Int32.toNatClampNeg 0)) r48) .l) = 0 → K A50) ∧ (¬ (Op.cmpValue (FP.dcmp (gD A50 29 (Int32.toNatClampNeg 0)) r48) .l) = 0 → (((Op.cmpValue (FP.dcmp (gD A50 29 (Int32.toNatClampNeg 0)) (gD A50 29 (Int32.toNatClampNeg 0))) .l) = 0 → False) ∧ (¬ (Op.cmpValue (FP.dcmp (gD A50 29 (Int32.toNatClampNeg 0)) (gD A50 29 (Int32.toNatClampNeg 0))) .l) = 0 → ((¬ (Op.cmpValue (FP.dcmp r48 r48) .l) = 0 → K A50) ∧ ((Op.cmpValue (FP.dcmp r48 r48) .l) = 0 → False))))))))) ∧ (¬ r51 = r45 → False)))))) ∧ (((zs (Int32.toNatClampNeg i)) &&& 15) = 6 → vp_in (i + 1) L ∧ wp_La_variable (zs (Int32.toNatClampNeg (i + 1))) A (fun (r56 : Int32) (A55 : Mem) => vp_in (i + 1) L ∧ kd 250 = 9 ∧ wp_Mo_variable1 250 (zs (Int32.toNatClampNeg (i + 1))) A55 (fun (r59 : UInt64) (A58 : Mem) => wp_Mo_thrown 250 A58 (fun (r62 : Int32) (A61 : Mem) => ((r62 = r56 → ((¬ r56 = 0 → K A61) ∧ (r56 = 0 → kd 29 = 53 ∧ vp_in 0 (al 29) ∧ (((Op.cmpValue (FP.dcmp (gD A61 29 (Int32.toNatClampNeg 0)) r59) .l) = 0 → K A61) ∧ (¬ (Op.cmpValue (FP.dcmp (gD A61 29 (Int32.toNatClampNeg 0)) r59) .l) = 0 → (((Op.cmpValue (FP.dcmp (gD A61 29 (Int32.toNatClampNeg 0)) (gD A61 29 (Int32.toNatClampNeg 0))) .l) = 0 → False) ∧ (¬ (Op.cmpValue (FP.dcmp (gD A61 29 (Int32.toNatClampNeg 0)) (gD A61 29 (Int32.toNatClampNeg 0))) .l) = 0 → ((¬ (Op.cmpValue (FP.dcmp r59 r59) .l) = 0 → K A61) ∧ ((Op.cmpValue (FP.dcmp r59 r59) .l) = 0 → False))))))))) ∧ (¬ r62 = r56 → False)))))) ∧ (((zs (Int32.toNatClampNeg i)) &&& 15) = 7 → vp_in (i + 1) L ∧ vp_in (i + 2) L ∧ vp_in (i + 3) L ∧ wp_La_element (zs (Int32.toNatClampNeg (i + 1))) (zs (Int32.toNatClampNeg (i + 2))) (zs (Int32.toNatClampNeg (i + 3))) A (fun (r69 : Int32) (A68 : Mem) => vp_in (i + 1) L ∧ vp_in (i + 2) L ∧ vp_in (i + 3) L ∧ kd 250 = 9 ∧ wp_Mo_element 250 (zs (Int32.toNatClampNeg (i + 1))) (zs (Int32.toNatClampNeg (i + 2))) (zs (Int32.toNatClampNeg (i + 3))) A68 (fun (r74 : UInt64) (A73 : Mem) => wp_Mo_thrown 250 A73 (fun (r77 : Int32) (A76 : Mem) => ((r77 = r69 → ((¬ r69 = 0 → K A76) ∧ (r69 = 0 → kd 29 = 53 ∧ vp_in 0 (al 29) ∧ (((Op.cmpValue (FP.dcmp (gD A76 29 (Int32.toNatClampNeg 0)) r74) .l) = 0 → K A76) ∧ (¬ (Op.cmpValue (FP.dcmp (gD A76 29 (Int32.toNatClampNeg 0)) r74) .l) = 0 → (((Op.cmpValue (FP.dcmp (gD A76 29 (Int32.toNatClampNeg 0)) (gD A76 29 (Int32.toNatClampNeg 0))) .l) = 0 → False) ∧ (¬ (Op.cmpValue (FP.dcmp (gD A76 29 (Int32.toNatClampNeg 0)) (gD A76 29 (Int32.toNatClampNeg 0))) .l) = 0 → ((¬ (Op.cmpValue (FP.dcmp r74 r74) .l) = 0 → K A76) ∧ ((Op.cmpValue (FP.dcmp r74 r74) .l) = 0 → False))))))))) ∧ (¬ r77 = r69 → False)))))) ∧ (((zs (Int32.toNatClampNeg i)) &&& 15) = 8 → kd 1 = 1 ∧ wp_BM_at 1 A (fun (r81 : Int32) (A80 : Mem) => kd 250 = 9 ∧ wp_Mo_at 250 A80 (fun (r84 : Int32) (A83 : Mem) => ((r81 = r84 → K A83) ∧ (¬ r81 = r84 → False))))) ∧ (((zs (Int32.toNatClampNeg i)) &&& 15) = 9 → vp_in (i + 1) L ∧ kd 1 = 1 ∧ wp_BM_count 1 (zs (Int32.toNatClampNeg (i + 1))) A (fun (r88 : Int32) (A87 : Mem) => kd 250 = 9 ∧ wp_Mo_count 250 (zs (Int32.toNatClampNeg (i + 1))) A87 (fun (r91 : Int32) (A90 : Mem) => ((r88 = r91 → K A90) ∧ (¬ r88 = r91 → False))))) ∧ (¬ ((zs (Int32.toNatClampNeg i)) &&& 15) = 0 → ¬ ((zs (Int32.toNatClampNeg i)) &&& 15) = 1 → ¬ ((zs (Int32.toNatClampNeg i)) &&& 15) = 2 → ¬ ((zs (Int32.toNatClampNeg i)) &&& 15) = 3 → ¬ ((zs (Int32.toNatClampNeg i)) &&& 15) = 4 → ¬ ((zs (Int32.toNatClampNeg i)) &&& 15) = 5 → ¬ ((zs (Int32.toNatClampNeg i)) &&& 15) = 6 → ¬ ((zs (Int32.toNatClampNeg i)) &&& 15) = 7 → ¬ ((zs (Int32.toNatClampNeg i)) &&& 15) = 8 → ¬ ((zs (Int32.toNatClampNeg i)) &&& 15) = 9 → K A))
set_option maxHeartbeats 4000000 in
theorem g_turn {X : CXT} {E : EVT} {b L : Nat} {zs : Nat → Int32} {A : Mem} {K : Mem → Prop} {i : Int32} {n : Nat} (hC : LawC X E (n + 1)) (hN : xnL X = 9) (hS : ScX X E b L zs) (h : wp_turn L zs i A K) (next : ∀ (X1 : CXT) (A1 : Mem), X1 = X ∨ X1 = up1 X → K A1 → G X1 E A1 28 [(0, .ref b), (1, cr E 1), (2, cr E 250), (3, cr E 28), (4, cr E 29), (5, .int (i + 4))] []) : G X E A 37 [(0, .ref b), (1, cr E 1), (2, cr E 250), (3, cr E 28), (4, cr E 29), (5, .int i)] [] := by
  have hX := hC.1
  have hR := hC.2.1
  have hU : X = X ∨ X = up1 X := Or.inl rfl
  unfold wp_turn at h
  refine g_aloadS (pc := 37) hX d_La_law_37 rfl 0 rfl ?_
  refine g_iload (pc := 38) hX d_La_law_38 5 rfl ?_
  obtain ⟨f1, h⟩ := h
  refine g_sld (pc := 40) hX hS f1 d_La_law_40 ?_
  refine g_bipush (pc := 41) (v := 15) hX d_La_law_41 (by decide) ?_
  refine g_iand (pc := 43) hX d_La_law_43 ?_
  by_cases q0 : ((zs (Int32.toNatClampNeg i)) &&& 15) = 0
  · have h := h.1 q0
    refine g_tabin (pc := 44) (tgt := 100) (off := 56) hX (v := 0) q0 d_La_law_44 (by decide) (by decide) (by decide +kernel) (by decide) ?_
    refine g_aload_n (pc := 100) hX d_La_law_100 rfl 1 rfl ?_
    refine g_aloadS (pc := 101) hX d_La_law_101 rfl 0 rfl ?_
    refine g_iload (pc := 102) hX d_La_law_102 5 rfl ?_
    refine g_iconst (pc := 104) (v := 1) hX d_La_law_104 (by decide) ?_
    refine g_iadd (pc := 105) hX d_La_law_105 ?_
    obtain ⟨f2, h⟩ := h
    refine g_sld (pc := 106) hX hS f2 d_La_law_106 ?_
    refine g_aload_n (pc := 107) hX d_La_law_107 rfl 3 rfl ?_
    refine g_callS_L (pc := 108) hX hR hC.2.2.1 ⟨by have := hC.2.2.2.1; omega, by have := hC.2.2.2.2; omega⟩ lkl_La_type mfl_La_type (c_La_type _ _ _ h) rfl rfl rfl ⟨by decide, by decide⟩ (cat_sum _ (Nat.le_of_ble_eq_true rfl)) d_La_law_108 (fun r4 A3 h => ?_)
    replace hC := LawC_up hC; replace hX := hC.1; replace hR := hC.2.1; replace hN : xnL (up1 X) = 9 := hN; replace hS : ScX (up1 X) E b L zs := hS; replace hU : up1 X = X ∨ up1 X = up1 X := Or.inr rfl
    refine g_istore (pc := 111) (lv0 := [(5, .int (i)), (0, .ref b), (1, cr E 1), (2, cr E 250), (3, cr E 28), (4, cr E 29)]) hX d_La_law_111 (by rw [hN]; decide) (g_st1b (ks := [5, 0, 1, 2, 3, 4]) rfl rfl rfl rfl) ?_
    refine g_aload_n (pc := 113) hX d_La_law_113 rfl 4 rfl ?_
    refine g_aloadS (pc := 114) hX d_La_law_114 rfl 2 rfl ?_
    refine g_iload (pc := 115) hX d_La_law_115 1 rfl ?_
    refine g_iconst (pc := 117) (v := 1) hX d_La_law_117 (by decide) ?_
    refine g_iadd (pc := 118) hX d_La_law_118 ?_
    obtain ⟨f5, h⟩ := h
    refine g_sld (pc := 119) hX hS f5 d_La_law_119 ?_
    obtain ⟨f8, h⟩ := h
    refine g_callV_I (pc := 120) hX hR f8 cf9 rfl lk_La_52 mf_Mo_type (c_Mo_type _ _ _ _ h) rfl rfl rfl ⟨by decide, by decide⟩ (cat_sum _ (Nat.le_of_ble_eq_true rfl)) d_La_law_120 (fun r7 A6 h => ?_)
    refine g_istore (pc := 123) (lv0 := [(6, .int (r4)), (5, .int (i)), (0, .ref b), (1, cr E 1), (2, cr E 250), (3, cr E 28), (4, cr E 29)]) hX d_La_law_123 (by rw [hN]; decide) (g_st1b (ks := [0, 1, 2, 3, 4, 5, 6]) rfl rfl rfl rfl) ?_
    refine g_aload_n (pc := 125) hX d_La_law_125 rfl 5 rfl ?_
    refine g_callV_I (pc := 126) hX hR f8 cf9 rfl lk_La_53 mf_Mo_thrown (c_Mo_thrown _ _ _ h) rfl rfl rfl ⟨by decide, by decide⟩ (cat_sum _ (Nat.le_of_ble_eq_true rfl)) d_La_law_126 (fun r10 A9 h => ?_)
    refine g_iload (pc := 129) hX d_La_law_129 1 rfl ?_
    refine g_icmp_eq (pc := 131) (tgt := 136) hX d_La_law_131 (by decide) (fun q => ?_) (fun q => ?_)
    · have h := h.1 q
      refine g_iload (pc := 136) hX d_La_law_136 1 rfl ?_
      refine g_if_ne (pc := 138) (tgt := 153) hX d_La_law_138 (by decide) (fun q => ?_) (fun q => ?_)
      · have h := h.1 q
        refine g_goto (pc := 153) (tgt := 563) hX d_La_law_153 (by decide) ?_
        refine g_iinc (pc := 563) (v := (i + 4)) (lv0 := [(4, cr E 29), (7, .int (r7)), (6, .int (r4)), (0, .ref b), (1, cr E 1), (2, cr E 250), (3, cr E 28)]) hX d_La_law_563 2 rfl rfl (by rw [hN]; decide) (g_st1b (ks := [7, 0, 1, 3, 4, 5, 6]) rfl (cr_cat _ _) rfl rfl) ?_
        refine g_goto (pc := 566) (tgt := 28) hX d_La_law_566 (by decide) ?_
        refine g_sub [4, 5, 6, 7, 1, 0] rfl ?_
        exact next _ _ hU h
      · have h := h.2 q
        refine g_aload_n (pc := 141) hX d_La_law_141 rfl 6 rfl ?_
        refine g_iconst (pc := 142) (v := 0) hX d_La_law_142 (by decide) ?_
        obtain ⟨f11, h⟩ := h
        obtain ⟨f12, h⟩ := h
        refine g_laload (pc := 143) hX f11 f12 d_La_law_143 ?_
        refine g_iload (pc := 144) hX d_La_law_144 0 rfl ?_
        refine g_i2l (pc := 146) hX d_La_law_146 ?_
        refine g_lcmp (pc := 147) hX d_La_law_147 ?_
        refine g_if_eq (pc := 148) (tgt := 153) hX d_La_law_148 (by decide) (fun q => ?_) (fun q => ?_)
        · have h := h.1 q
          refine g_goto (pc := 153) (tgt := 563) hX d_La_law_153 (by decide) ?_
          refine g_iinc (pc := 563) (v := (i + 4)) (lv0 := [(4, cr E 29), (7, .int (r7)), (6, .int (r4)), (0, .ref b), (1, cr E 1), (2, cr E 250), (3, cr E 28)]) hX d_La_law_563 2 rfl rfl (by rw [hN]; decide) (g_st1b (ks := [7, 0, 1, 3, 4, 5, 6]) rfl (cr_cat _ _) rfl rfl) ?_
          refine g_goto (pc := 566) (tgt := 28) hX d_La_law_566 (by decide) ?_
          refine g_sub [4, 5, 6, 7, 1, 0] rfl ?_
          exact next _ _ hU h
        · have h := h.2 q
          refine g_iconst (pc := 151) (v := 0) hX d_La_law_151 (by decide) ?_
          exact h.elim
    · have h := h.2 q
      refine g_iconst (pc := 134) (v := 0) hX d_La_law_134 (by decide) ?_
      exact h.elim
  by_cases q1 : ((zs (Int32.toNatClampNeg i)) &&& 15) = 1
  · have h := h.2.1 q1
    refine g_tabin (pc := 44) (tgt := 156) (off := 112) hX (v := 1) q1 d_La_law_44 (by decide) (by decide) (by decide +kernel) (by decide) ?_
    refine g_aload_n (pc := 156) hX d_La_law_156 rfl 1 rfl ?_
    refine g_aload_n (pc := 157) hX d_La_law_157 rfl 3 rfl ?_
    refine g_callS_L (pc := 158) hX hR hC.2.2.1 ⟨by have := hC.2.2.2.1; omega, by have := hC.2.2.2.2; omega⟩ lkl_La_enter mfl_La_enter (c_La_enter  _ _ h) rfl rfl rfl ⟨by decide, by decide⟩ (cat_sum _ (Nat.le_of_ble_eq_true rfl)) d_La_law_158 (fun r14 A13 h => ?_)
    replace hC := LawC_up hC; replace hX := hC.1; replace hR := hC.2.1; replace hN : xnL (up1 X) = 9 := hN; replace hS : ScX (up1 X) E b L zs := hS; replace hU : up1 X = X ∨ up1 X = up1 X := Or.inr rfl
    refine g_istore (pc := 161) (lv0 := [(5, .int (i)), (0, .ref b), (1, cr E 1), (2, cr E 250), (3, cr E 28), (4, cr E 29)]) hX d_La_law_161 (by rw [hN]; decide) (g_st1b (ks := [5, 0, 1, 2, 3, 4]) rfl rfl rfl rfl) ?_
    refine g_aload_n (pc := 163) hX d_La_law_163 rfl 4 rfl ?_
    obtain ⟨f17, h⟩ := h
    refine g_callV_I (pc := 164) hX hR f17 cf9 rfl lk_La_59 mf_Mo_enter (c_Mo_enter _ _ _ h) rfl rfl rfl ⟨by decide, by decide⟩ (cat_sum _ (Nat.le_of_ble_eq_true rfl)) d_La_law_164 (fun r16 A15 h => ?_)
    refine g_istore (pc := 167) (lv0 := [(6, .int (r14)), (5, .int (i)), (0, .ref b), (1, cr E 1), (2, cr E 250), (3, cr E 28), (4, cr E 29)]) hX d_La_law_167 (by rw [hN]; decide) (g_st1b (ks := [0, 1, 2, 3, 4, 5, 6]) rfl rfl rfl rfl) ?_
    refine g_aload_n (pc := 169) hX d_La_law_169 rfl 5 rfl ?_
    refine g_callV_I (pc := 170) hX hR f17 cf9 rfl lk_La_53 mf_Mo_thrown (c_Mo_thrown _ _ _ h) rfl rfl rfl ⟨by decide, by decide⟩ (cat_sum _ (Nat.le_of_ble_eq_true rfl)) d_La_law_170 (fun r19 A18 h => ?_)
    refine g_iload (pc := 173) hX d_La_law_173 1 rfl ?_
    refine g_icmp_eq (pc := 175) (tgt := 180) hX d_La_law_175 (by decide) (fun q => ?_) (fun q => ?_)
    · have h := h.1 q
      refine g_iload (pc := 180) hX d_La_law_180 1 rfl ?_
      refine g_if_ne (pc := 182) (tgt := 197) hX d_La_law_182 (by decide) (fun q => ?_) (fun q => ?_)
      · have h := h.1 q
        refine g_goto (pc := 197) (tgt := 563) hX d_La_law_197 (by decide) ?_
        refine g_iinc (pc := 563) (v := (i + 4)) (lv0 := [(4, cr E 29), (7, .int (r16)), (6, .int (r14)), (0, .ref b), (1, cr E 1), (2, cr E 250), (3, cr E 28)]) hX d_La_law_563 2 rfl rfl (by rw [hN]; decide) (g_st1b (ks := [7, 0, 1, 3, 4, 5, 6]) rfl (cr_cat _ _) rfl rfl) ?_
        refine g_goto (pc := 566) (tgt := 28) hX d_La_law_566 (by decide) ?_
        refine g_sub [4, 5, 6, 7, 1, 0] rfl ?_
        exact next _ _ hU h
      · have h := h.2 q
        refine g_aload_n (pc := 185) hX d_La_law_185 rfl 6 rfl ?_
        refine g_iconst (pc := 186) (v := 0) hX d_La_law_186 (by decide) ?_
        obtain ⟨f20, h⟩ := h
        obtain ⟨f21, h⟩ := h
        refine g_laload (pc := 187) hX f20 f21 d_La_law_187 ?_
        refine g_iload (pc := 188) hX d_La_law_188 0 rfl ?_
        refine g_i2l (pc := 190) hX d_La_law_190 ?_
        refine g_lcmp (pc := 191) hX d_La_law_191 ?_
        refine g_if_eq (pc := 192) (tgt := 197) hX d_La_law_192 (by decide) (fun q => ?_) (fun q => ?_)
        · have h := h.1 q
          refine g_goto (pc := 197) (tgt := 563) hX d_La_law_197 (by decide) ?_
          refine g_iinc (pc := 563) (v := (i + 4)) (lv0 := [(4, cr E 29), (7, .int (r16)), (6, .int (r14)), (0, .ref b), (1, cr E 1), (2, cr E 250), (3, cr E 28)]) hX d_La_law_563 2 rfl rfl (by rw [hN]; decide) (g_st1b (ks := [7, 0, 1, 3, 4, 5, 6]) rfl (cr_cat _ _) rfl rfl) ?_
          refine g_goto (pc := 566) (tgt := 28) hX d_La_law_566 (by decide) ?_
          refine g_sub [4, 5, 6, 7, 1, 0] rfl ?_
          exact next _ _ hU h
        · have h := h.2 q
          refine g_iconst (pc := 195) (v := 0) hX d_La_law_195 (by decide) ?_
          exact h.elim
    · have h := h.2 q
      refine g_iconst (pc := 178) (v := 0) hX d_La_law_178 (by decide) ?_
      exact h.elim
  by_cases q2 : ((zs (Int32.toNatClampNeg i)) &&& 15) = 2
  · have h := h.2.2.1 q2
    refine g_tabin (pc := 44) (tgt := 200) (off := 156) hX (v := 2) q2 d_La_law_44 (by decide) (by decide) (by decide +kernel) (by decide) ?_
    refine g_aload_n (pc := 200) hX d_La_law_200 rfl 1 rfl ?_
    obtain ⟨f24, h⟩ := h
    refine g_callV_I (pc := 201) hX hR f24 cf1 rfl lk_La_60 mf_BM_errorAt (c_BM_errorAt _ _ _ h) rfl rfl rfl ⟨by decide, by decide⟩ (cat_sum _ (Nat.le_of_ble_eq_true rfl)) d_La_law_201 (fun r23 A22 h => ?_)
    refine g_aload_n (pc := 204) hX d_La_law_204 rfl 2 rfl ?_
    obtain ⟨f27, h⟩ := h
    refine g_callV_I (pc := 205) hX hR f27 cf9 rfl lk_La_63 mf_Mo_errorAt (c_Mo_errorAt _ _ _ h) rfl rfl rfl ⟨by decide, by decide⟩ (cat_sum _ (Nat.le_of_ble_eq_true rfl)) d_La_law_205 (fun r26 A25 h => ?_)
    refine g_icmp_eq (pc := 208) (tgt := 563) hX d_La_law_208 (by decide) (fun q => ?_) (fun q => ?_)
    · have h := h.1 q
      refine g_iinc (pc := 563) (v := (i + 4)) (lv0 := [(4, cr E 29), (0, .ref b), (1, cr E 1), (2, cr E 250), (3, cr E 28)]) hX d_La_law_563 5 rfl rfl (by rw [hN]; decide) (g_st1b (ks := [4, 0, 1, 2, 3]) rfl (cr_cat _ _) rfl rfl) ?_
      refine g_goto (pc := 566) (tgt := 28) hX d_La_law_566 (by decide) ?_
      refine g_sub [2, 3, 4, 5, 1, 0] rfl ?_
      exact next _ _ hU h
    · have h := h.2 q
      refine g_iconst (pc := 211) (v := 0) hX d_La_law_211 (by decide) ?_
      exact h.elim
  by_cases q3 : ((zs (Int32.toNatClampNeg i)) &&& 15) = 3
  · have h := h.2.2.2.1 q3
    refine g_tabin (pc := 44) (tgt := 213) (off := 169) hX (v := 3) q3 d_La_law_44 (by decide) (by decide) (by decide +kernel) (by decide) ?_
    refine g_aload_n (pc := 213) hX d_La_law_213 rfl 1 rfl ?_
    obtain ⟨f30, h⟩ := h
    refine g_callV_I (pc := 214) hX hR f30 cf1 rfl lk_La_64 mf_BM_wipe (c_BM_wipe _ _ _ h) rfl rfl rfl ⟨by decide, by decide⟩ (cat_sum _ (Nat.le_of_ble_eq_true rfl)) d_La_law_214 (fun r29 A28 h => ?_)
    refine g_aload_n (pc := 217) hX d_La_law_217 rfl 2 rfl ?_
    obtain ⟨f33, h⟩ := h
    refine g_callV_I (pc := 218) hX hR f33 cf9 rfl lk_La_67 mf_Mo_wipe (c_Mo_wipe _ _ _ h) rfl rfl rfl ⟨by decide, by decide⟩ (cat_sum _ (Nat.le_of_ble_eq_true rfl)) d_La_law_218 (fun r32 A31 h => ?_)
    refine g_icmp_eq (pc := 221) (tgt := 563) hX d_La_law_221 (by decide) (fun q => ?_) (fun q => ?_)
    · have h := h.1 q
      refine g_iinc (pc := 563) (v := (i + 4)) (lv0 := [(4, cr E 29), (0, .ref b), (1, cr E 1), (2, cr E 250), (3, cr E 28)]) hX d_La_law_563 5 rfl rfl (by rw [hN]; decide) (g_st1b (ks := [4, 0, 1, 2, 3]) rfl (cr_cat _ _) rfl rfl) ?_
      refine g_goto (pc := 566) (tgt := 28) hX d_La_law_566 (by decide) ?_
      refine g_sub [2, 3, 4, 5, 1, 0] rfl ?_
      exact next _ _ hU h
    · have h := h.2 q
      refine g_iconst (pc := 224) (v := 0) hX d_La_law_224 (by decide) ?_
      exact h.elim
  by_cases q4 : ((zs (Int32.toNatClampNeg i)) &&& 15) = 4
  · have h := h.2.2.2.2.1 q4
    refine g_tabin (pc := 44) (tgt := 226) (off := 182) hX (v := 4) q4 d_La_law_44 (by decide) (by decide) (by decide +kernel) (by decide) ?_
    refine g_aload_n (pc := 226) hX d_La_law_226 rfl 1 rfl ?_
    refine g_aload_n (pc := 227) hX d_La_law_227 rfl 3 rfl ?_
    refine g_callS_L (pc := 228) hX hR hC.2.2.1 ⟨by have := hC.2.2.2.1; omega, by have := hC.2.2.2.2; omega⟩ lkl_La_run mfl_La_run (c_La_run  _ _ h) rfl rfl rfl ⟨by decide, by decide⟩ (cat_sum _ (Nat.le_of_ble_eq_true rfl)) d_La_law_228 (fun r35 A34 h => ?_)
    replace hC := LawC_up hC; replace hX := hC.1; replace hR := hC.2.1; replace hN : xnL (up1 X) = 9 := hN; replace hS : ScX (up1 X) E b L zs := hS; replace hU : up1 X = X ∨ up1 X = up1 X := Or.inr rfl
    refine g_istore (pc := 231) (lv0 := [(5, .int (i)), (0, .ref b), (1, cr E 1), (2, cr E 250), (3, cr E 28), (4, cr E 29)]) hX d_La_law_231 (by rw [hN]; decide) (g_st1b (ks := [5, 0, 1, 2, 3, 4]) rfl rfl rfl rfl) ?_
    refine g_aload_n (pc := 233) hX d_La_law_233 rfl 4 rfl ?_
    obtain ⟨f38, h⟩ := h
    refine g_callV_I (pc := 234) hX hR f38 cf9 rfl lk_La_70 mf_Mo_run (c_Mo_run _ _ _ h) rfl rfl rfl ⟨by decide, by decide⟩ (cat_sum _ (Nat.le_of_ble_eq_true rfl)) d_La_law_234 (fun r37 A36 h => ?_)
    refine g_istore (pc := 237) (lv0 := [(6, .int (r35)), (5, .int (i)), (0, .ref b), (1, cr E 1), (2, cr E 250), (3, cr E 28), (4, cr E 29)]) hX d_La_law_237 (by rw [hN]; decide) (g_st1b (ks := [0, 1, 2, 3, 4, 5, 6]) rfl rfl rfl rfl) ?_
    refine g_aload_n (pc := 239) hX d_La_law_239 rfl 5 rfl ?_
    refine g_callV_I (pc := 240) hX hR f38 cf9 rfl lk_La_53 mf_Mo_thrown (c_Mo_thrown _ _ _ h) rfl rfl rfl ⟨by decide, by decide⟩ (cat_sum _ (Nat.le_of_ble_eq_true rfl)) d_La_law_240 (fun r40 A39 h => ?_)
    refine g_iload (pc := 243) hX d_La_law_243 1 rfl ?_
    refine g_icmp_eq (pc := 245) (tgt := 250) hX d_La_law_245 (by decide) (fun q => ?_) (fun q => ?_)
    · have h := h.1 q
      refine g_iload (pc := 250) hX d_La_law_250 1 rfl ?_
      refine g_if_ne (pc := 252) (tgt := 267) hX d_La_law_252 (by decide) (fun q => ?_) (fun q => ?_)
      · have h := h.1 q
        refine g_goto (pc := 267) (tgt := 563) hX d_La_law_267 (by decide) ?_
        refine g_iinc (pc := 563) (v := (i + 4)) (lv0 := [(4, cr E 29), (7, .int (r37)), (6, .int (r35)), (0, .ref b), (1, cr E 1), (2, cr E 250), (3, cr E 28)]) hX d_La_law_563 2 rfl rfl (by rw [hN]; decide) (g_st1b (ks := [7, 0, 1, 3, 4, 5, 6]) rfl (cr_cat _ _) rfl rfl) ?_
        refine g_goto (pc := 566) (tgt := 28) hX d_La_law_566 (by decide) ?_
        refine g_sub [4, 5, 6, 7, 1, 0] rfl ?_
        exact next _ _ hU h
      · have h := h.2 q
        refine g_aload_n (pc := 255) hX d_La_law_255 rfl 6 rfl ?_
        refine g_iconst (pc := 256) (v := 0) hX d_La_law_256 (by decide) ?_
        obtain ⟨f41, h⟩ := h
        obtain ⟨f42, h⟩ := h
        refine g_laload (pc := 257) hX f41 f42 d_La_law_257 ?_
        refine g_iload (pc := 258) hX d_La_law_258 0 rfl ?_
        refine g_i2l (pc := 260) hX d_La_law_260 ?_
        refine g_lcmp (pc := 261) hX d_La_law_261 ?_
        refine g_if_eq (pc := 262) (tgt := 267) hX d_La_law_262 (by decide) (fun q => ?_) (fun q => ?_)
        · have h := h.1 q
          refine g_goto (pc := 267) (tgt := 563) hX d_La_law_267 (by decide) ?_
          refine g_iinc (pc := 563) (v := (i + 4)) (lv0 := [(4, cr E 29), (7, .int (r37)), (6, .int (r35)), (0, .ref b), (1, cr E 1), (2, cr E 250), (3, cr E 28)]) hX d_La_law_563 2 rfl rfl (by rw [hN]; decide) (g_st1b (ks := [7, 0, 1, 3, 4, 5, 6]) rfl (cr_cat _ _) rfl rfl) ?_
          refine g_goto (pc := 566) (tgt := 28) hX d_La_law_566 (by decide) ?_
          refine g_sub [4, 5, 6, 7, 1, 0] rfl ?_
          exact next _ _ hU h
        · have h := h.2 q
          refine g_iconst (pc := 265) (v := 0) hX d_La_law_265 (by decide) ?_
          exact h.elim
    · have h := h.2 q
      refine g_iconst (pc := 248) (v := 0) hX d_La_law_248 (by decide) ?_
      exact h.elim
  by_cases q5 : ((zs (Int32.toNatClampNeg i)) &&& 15) = 5
  · have h := h.2.2.2.2.2.1 q5
    refine g_tabin (pc := 44) (tgt := 270) (off := 226) hX (v := 5) q5 d_La_law_44 (by decide) (by decide) (by decide +kernel) (by decide) ?_
    refine g_aload_n (pc := 270) hX d_La_law_270 rfl 1 rfl ?_
    refine g_aloadS (pc := 271) hX d_La_law_271 rfl 0 rfl ?_
    refine g_iload (pc := 272) hX d_La_law_272 5 rfl ?_
    refine g_iconst (pc := 274) (v := 1) hX d_La_law_274 (by decide) ?_
    refine g_iadd (pc := 275) hX d_La_law_275 ?_
    obtain ⟨f43, h⟩ := h
    refine g_sld (pc := 276) hX hS f43 d_La_law_276 ?_
    refine g_aload (pc := 277) hX d_La_law_277 4 rfl ?_
    refine g_callS_L (pc := 279) hX hR hC.2.2.1 ⟨by have := hC.2.2.2.1; omega, by have := hC.2.2.2.2; omega⟩ lkl_La_printed mfl_La_printed (c_La_printed _ _ _ h) rfl rfl rfl ⟨by decide, by decide⟩ (cat_sum _ (Nat.le_of_ble_eq_true rfl)) d_La_law_279 (fun r45 A44 h => ?_)
    replace hC := LawC_up hC; replace hX := hC.1; replace hR := hC.2.1; replace hN : xnL (up1 X) = 9 := hN; replace hS : ScX (up1 X) E b L zs := hS; replace hU : up1 X = X ∨ up1 X = up1 X := Or.inr rfl
    refine g_istore (pc := 282) (lv0 := [(5, .int (i)), (0, .ref b), (1, cr E 1), (2, cr E 250), (3, cr E 28), (4, cr E 29)]) hX d_La_law_282 (by rw [hN]; decide) (g_st1b (ks := [5, 0, 1, 2, 3, 4]) rfl rfl rfl rfl) ?_
    refine g_aload_n (pc := 284) hX d_La_law_284 rfl 4 rfl ?_
    refine g_aloadS (pc := 285) hX d_La_law_285 rfl 2 rfl ?_
    refine g_iload (pc := 286) hX d_La_law_286 1 rfl ?_
    refine g_iconst (pc := 288) (v := 1) hX d_La_law_288 (by decide) ?_
    refine g_iadd (pc := 289) hX d_La_law_289 ?_
    obtain ⟨f46, h⟩ := h
    refine g_sld (pc := 290) hX hS f46 d_La_law_290 ?_
    obtain ⟨f49, h⟩ := h
    refine g_callV_D (pc := 291) hX hR f49 cf9 rfl lk_La_74 mf_Mo_printed (c_Mo_printed _ _ _ _ h) rfl rfl rfl ⟨by decide, by decide⟩ (cat_sum _ (Nat.le_of_ble_eq_true rfl)) d_La_law_291 (fun r48 A47 h => ?_)
    refine g_dstore (pc := 294) (lv0 := [(6, .int (r45)), (5, .int (i)), (0, .ref b), (1, cr E 1), (2, cr E 250), (3, cr E 28), (4, cr E 29)]) hX d_La_law_294 (by rw [hN]; decide) (g_st2b (ks := [0, 1, 2, 3, 4, 5, 6]) rfl rfl rfl rfl rfl) ?_
    refine g_aload_n (pc := 296) hX d_La_law_296 rfl 5 rfl ?_
    refine g_callV_I (pc := 297) hX hR f49 cf9 rfl lk_La_53 mf_Mo_thrown (c_Mo_thrown _ _ _ h) rfl rfl rfl ⟨by decide, by decide⟩ (cat_sum _ (Nat.le_of_ble_eq_true rfl)) d_La_law_297 (fun r51 A50 h => ?_)
    refine g_iload (pc := 300) hX d_La_law_300 1 rfl ?_
    refine g_icmp_eq (pc := 302) (tgt := 307) hX d_La_law_302 (by decide) (fun q => ?_) (fun q => ?_)
    · have h := h.1 q
      refine g_iload (pc := 307) hX d_La_law_307 1 rfl ?_
      refine g_if_ne (pc := 309) (tgt := 344) hX d_La_law_309 (by decide) (fun q => ?_) (fun q => ?_)
      · have h := h.1 q
        refine g_goto (pc := 344) (tgt := 563) hX d_La_law_344 (by decide) ?_
        refine g_iinc (pc := 563) (v := (i + 4)) (lv0 := [(4, cr E 29), (7, .double (r48)), (6, .int (r45)), (0, .ref b), (1, cr E 1), (2, cr E 250), (3, cr E 28)]) hX d_La_law_563 2 rfl rfl (by rw [hN]; decide) (g_st1b (ks := [7, 0, 1, 3, 4, 5, 6]) rfl (cr_cat _ _) rfl rfl) ?_
        refine g_goto (pc := 566) (tgt := 28) hX d_La_law_566 (by decide) ?_
        refine g_sub [4, 5, 6, 7, 1, 0] rfl ?_
        exact next _ _ hU h
      · have h := h.2 q
        refine g_aload (pc := 312) hX d_La_law_312 7 rfl ?_
        refine g_iconst (pc := 314) (v := 0) hX d_La_law_314 (by decide) ?_
        obtain ⟨f52, h⟩ := h
        obtain ⟨f53, h⟩ := h
        refine g_daload (pc := 315) hX f52 f53 d_La_law_315 ?_
        refine g_dload (pc := 316) hX d_La_law_316 0 rfl ?_
        refine g_dcmp (pc := 318) hX d_La_law_318 ?_
        refine g_if_eq (pc := 319) (tgt := 344) hX d_La_law_319 (by decide) (fun q => ?_) (fun q => ?_)
        · have h := h.1 q
          refine g_goto (pc := 344) (tgt := 563) hX d_La_law_344 (by decide) ?_
          refine g_iinc (pc := 563) (v := (i + 4)) (lv0 := [(4, cr E 29), (7, .double (r48)), (6, .int (r45)), (0, .ref b), (1, cr E 1), (2, cr E 250), (3, cr E 28)]) hX d_La_law_563 2 rfl rfl (by rw [hN]; decide) (g_st1b (ks := [7, 0, 1, 3, 4, 5, 6]) rfl (cr_cat _ _) rfl rfl) ?_
          refine g_goto (pc := 566) (tgt := 28) hX d_La_law_566 (by decide) ?_
          refine g_sub [4, 5, 6, 7, 1, 0] rfl ?_
          exact next _ _ hU h
        · have h := h.2 q
          refine g_aload (pc := 322) hX d_La_law_322 7 rfl ?_
          refine g_iconst (pc := 324) (v := 0) hX d_La_law_324 (by decide) ?_
          refine g_daload (pc := 325) hX f52 f53 d_La_law_325 ?_
          refine g_aload (pc := 326) hX d_La_law_326 7 rfl ?_
          refine g_iconst (pc := 328) (v := 0) hX d_La_law_328 (by decide) ?_
          refine g_daload (pc := 329) hX f52 f53 d_La_law_329 ?_
          refine g_dcmp (pc := 330) hX d_La_law_330 ?_
          refine g_if_eq (pc := 331) (tgt := 342) hX d_La_law_331 (by decide) (fun q => ?_) (fun q => ?_)
          · have h := h.1 q
            refine g_iconst (pc := 342) (v := 0) hX d_La_law_342 (by decide) ?_
            exact h.elim
          · have h := h.2 q
            refine g_dload (pc := 334) hX d_La_law_334 0 rfl ?_
            refine g_dload (pc := 336) hX d_La_law_336 0 rfl ?_
            refine g_dcmp (pc := 338) hX d_La_law_338 ?_
            refine g_if_ne (pc := 339) (tgt := 344) hX d_La_law_339 (by decide) (fun q => ?_) (fun q => ?_)
            · have h := h.1 q
              refine g_goto (pc := 344) (tgt := 563) hX d_La_law_344 (by decide) ?_
              refine g_iinc (pc := 563) (v := (i + 4)) (lv0 := [(4, cr E 29), (7, .double (r48)), (6, .int (r45)), (0, .ref b), (1, cr E 1), (2, cr E 250), (3, cr E 28)]) hX d_La_law_563 2 rfl rfl (by rw [hN]; decide) (g_st1b (ks := [7, 0, 1, 3, 4, 5, 6]) rfl (cr_cat _ _) rfl rfl) ?_
              refine g_goto (pc := 566) (tgt := 28) hX d_La_law_566 (by decide) ?_
              refine g_sub [4, 5, 6, 7, 1, 0] rfl ?_
              exact next _ _ hU h
            · have h := h.2 q
              refine g_iconst (pc := 342) (v := 0) hX d_La_law_342 (by decide) ?_
              exact h.elim
    · have h := h.2 q
      refine g_iconst (pc := 305) (v := 0) hX d_La_law_305 (by decide) ?_
      exact h.elim
  by_cases q6 : ((zs (Int32.toNatClampNeg i)) &&& 15) = 6
  · have h := h.2.2.2.2.2.2.1 q6
    refine g_tabin (pc := 44) (tgt := 347) (off := 303) hX (v := 6) q6 d_La_law_44 (by decide) (by decide) (by decide +kernel) (by decide) ?_
    refine g_aload_n (pc := 347) hX d_La_law_347 rfl 1 rfl ?_
    refine g_aloadS (pc := 348) hX d_La_law_348 rfl 0 rfl ?_
    refine g_iload (pc := 349) hX d_La_law_349 5 rfl ?_
    refine g_iconst (pc := 351) (v := 1) hX d_La_law_351 (by decide) ?_
    refine g_iadd (pc := 352) hX d_La_law_352 ?_
    obtain ⟨f54, h⟩ := h
    refine g_sld (pc := 353) hX hS f54 d_La_law_353 ?_
    refine g_aload (pc := 354) hX d_La_law_354 4 rfl ?_
    refine g_callS_L (pc := 356) hX hR hC.2.2.1 ⟨by have := hC.2.2.2.1; omega, by have := hC.2.2.2.2; omega⟩ lkl_La_variable mfl_La_variable (c_La_variable _ _ _ h) rfl rfl rfl ⟨by decide, by decide⟩ (cat_sum _ (Nat.le_of_ble_eq_true rfl)) d_La_law_356 (fun r56 A55 h => ?_)
    replace hC := LawC_up hC; replace hX := hC.1; replace hR := hC.2.1; replace hN : xnL (up1 X) = 9 := hN; replace hS : ScX (up1 X) E b L zs := hS; replace hU : up1 X = X ∨ up1 X = up1 X := Or.inr rfl
    refine g_istore (pc := 359) (lv0 := [(5, .int (i)), (0, .ref b), (1, cr E 1), (2, cr E 250), (3, cr E 28), (4, cr E 29)]) hX d_La_law_359 (by rw [hN]; decide) (g_st1b (ks := [5, 0, 1, 2, 3, 4]) rfl rfl rfl rfl) ?_
    refine g_aload_n (pc := 361) hX d_La_law_361 rfl 4 rfl ?_
    refine g_aloadS (pc := 362) hX d_La_law_362 rfl 2 rfl ?_
    refine g_iload (pc := 363) hX d_La_law_363 1 rfl ?_
    refine g_iconst (pc := 365) (v := 1) hX d_La_law_365 (by decide) ?_
    refine g_iadd (pc := 366) hX d_La_law_366 ?_
    obtain ⟨f57, h⟩ := h
    refine g_sld (pc := 367) hX hS f57 d_La_law_367 ?_
    obtain ⟨f60, h⟩ := h
    refine g_callV_D (pc := 368) hX hR f60 cf9 rfl lk_La_77 mf_Mo_variable1 (c_Mo_variable1 _ _ _ _ h) rfl rfl rfl ⟨by decide, by decide⟩ (cat_sum _ (Nat.le_of_ble_eq_true rfl)) d_La_law_368 (fun r59 A58 h => ?_)
    refine g_dstore (pc := 371) (lv0 := [(6, .int (r56)), (5, .int (i)), (0, .ref b), (1, cr E 1), (2, cr E 250), (3, cr E 28), (4, cr E 29)]) hX d_La_law_371 (by rw [hN]; decide) (g_st2b (ks := [0, 1, 2, 3, 4, 5, 6]) rfl rfl rfl rfl rfl) ?_
    refine g_aload_n (pc := 373) hX d_La_law_373 rfl 5 rfl ?_
    refine g_callV_I (pc := 374) hX hR f60 cf9 rfl lk_La_53 mf_Mo_thrown (c_Mo_thrown _ _ _ h) rfl rfl rfl ⟨by decide, by decide⟩ (cat_sum _ (Nat.le_of_ble_eq_true rfl)) d_La_law_374 (fun r62 A61 h => ?_)
    refine g_iload (pc := 377) hX d_La_law_377 1 rfl ?_
    refine g_icmp_eq (pc := 379) (tgt := 384) hX d_La_law_379 (by decide) (fun q => ?_) (fun q => ?_)
    · have h := h.1 q
      refine g_iload (pc := 384) hX d_La_law_384 1 rfl ?_
      refine g_if_ne (pc := 386) (tgt := 421) hX d_La_law_386 (by decide) (fun q => ?_) (fun q => ?_)
      · have h := h.1 q
        refine g_goto (pc := 421) (tgt := 563) hX d_La_law_421 (by decide) ?_
        refine g_iinc (pc := 563) (v := (i + 4)) (lv0 := [(4, cr E 29), (7, .double (r59)), (6, .int (r56)), (0, .ref b), (1, cr E 1), (2, cr E 250), (3, cr E 28)]) hX d_La_law_563 2 rfl rfl (by rw [hN]; decide) (g_st1b (ks := [7, 0, 1, 3, 4, 5, 6]) rfl (cr_cat _ _) rfl rfl) ?_
        refine g_goto (pc := 566) (tgt := 28) hX d_La_law_566 (by decide) ?_
        refine g_sub [4, 5, 6, 7, 1, 0] rfl ?_
        exact next _ _ hU h
      · have h := h.2 q
        refine g_aload (pc := 389) hX d_La_law_389 7 rfl ?_
        refine g_iconst (pc := 391) (v := 0) hX d_La_law_391 (by decide) ?_
        obtain ⟨f63, h⟩ := h
        obtain ⟨f64, h⟩ := h
        refine g_daload (pc := 392) hX f63 f64 d_La_law_392 ?_
        refine g_dload (pc := 393) hX d_La_law_393 0 rfl ?_
        refine g_dcmp (pc := 395) hX d_La_law_395 ?_
        refine g_if_eq (pc := 396) (tgt := 421) hX d_La_law_396 (by decide) (fun q => ?_) (fun q => ?_)
        · have h := h.1 q
          refine g_goto (pc := 421) (tgt := 563) hX d_La_law_421 (by decide) ?_
          refine g_iinc (pc := 563) (v := (i + 4)) (lv0 := [(4, cr E 29), (7, .double (r59)), (6, .int (r56)), (0, .ref b), (1, cr E 1), (2, cr E 250), (3, cr E 28)]) hX d_La_law_563 2 rfl rfl (by rw [hN]; decide) (g_st1b (ks := [7, 0, 1, 3, 4, 5, 6]) rfl (cr_cat _ _) rfl rfl) ?_
          refine g_goto (pc := 566) (tgt := 28) hX d_La_law_566 (by decide) ?_
          refine g_sub [4, 5, 6, 7, 1, 0] rfl ?_
          exact next _ _ hU h
        · have h := h.2 q
          refine g_aload (pc := 399) hX d_La_law_399 7 rfl ?_
          refine g_iconst (pc := 401) (v := 0) hX d_La_law_401 (by decide) ?_
          refine g_daload (pc := 402) hX f63 f64 d_La_law_402 ?_
          refine g_aload (pc := 403) hX d_La_law_403 7 rfl ?_
          refine g_iconst (pc := 405) (v := 0) hX d_La_law_405 (by decide) ?_
          refine g_daload (pc := 406) hX f63 f64 d_La_law_406 ?_
          refine g_dcmp (pc := 407) hX d_La_law_407 ?_
          refine g_if_eq (pc := 408) (tgt := 419) hX d_La_law_408 (by decide) (fun q => ?_) (fun q => ?_)
          · have h := h.1 q
            refine g_iconst (pc := 419) (v := 0) hX d_La_law_419 (by decide) ?_
            exact h.elim
          · have h := h.2 q
            refine g_dload (pc := 411) hX d_La_law_411 0 rfl ?_
            refine g_dload (pc := 413) hX d_La_law_413 0 rfl ?_
            refine g_dcmp (pc := 415) hX d_La_law_415 ?_
            refine g_if_ne (pc := 416) (tgt := 421) hX d_La_law_416 (by decide) (fun q => ?_) (fun q => ?_)
            · have h := h.1 q
              refine g_goto (pc := 421) (tgt := 563) hX d_La_law_421 (by decide) ?_
              refine g_iinc (pc := 563) (v := (i + 4)) (lv0 := [(4, cr E 29), (7, .double (r59)), (6, .int (r56)), (0, .ref b), (1, cr E 1), (2, cr E 250), (3, cr E 28)]) hX d_La_law_563 2 rfl rfl (by rw [hN]; decide) (g_st1b (ks := [7, 0, 1, 3, 4, 5, 6]) rfl (cr_cat _ _) rfl rfl) ?_
              refine g_goto (pc := 566) (tgt := 28) hX d_La_law_566 (by decide) ?_
              refine g_sub [4, 5, 6, 7, 1, 0] rfl ?_
              exact next _ _ hU h
            · have h := h.2 q
              refine g_iconst (pc := 419) (v := 0) hX d_La_law_419 (by decide) ?_
              exact h.elim
    · have h := h.2 q
      refine g_iconst (pc := 382) (v := 0) hX d_La_law_382 (by decide) ?_
      exact h.elim
  by_cases q7 : ((zs (Int32.toNatClampNeg i)) &&& 15) = 7
  · have h := h.2.2.2.2.2.2.2.1 q7
    refine g_tabin (pc := 44) (tgt := 424) (off := 380) hX (v := 7) q7 d_La_law_44 (by decide) (by decide) (by decide +kernel) (by decide) ?_
    refine g_aload_n (pc := 424) hX d_La_law_424 rfl 1 rfl ?_
    refine g_aloadS (pc := 425) hX d_La_law_425 rfl 0 rfl ?_
    refine g_iload (pc := 426) hX d_La_law_426 5 rfl ?_
    refine g_iconst (pc := 428) (v := 1) hX d_La_law_428 (by decide) ?_
    refine g_iadd (pc := 429) hX d_La_law_429 ?_
    obtain ⟨f65, h⟩ := h
    refine g_sld (pc := 430) hX hS f65 d_La_law_430 ?_
    refine g_aloadS (pc := 431) hX d_La_law_431 rfl 0 rfl ?_
    refine g_iload (pc := 432) hX d_La_law_432 5 rfl ?_
    refine g_iconst (pc := 434) (v := 2) hX d_La_law_434 (by decide) ?_
    refine g_iadd (pc := 435) hX d_La_law_435 ?_
    obtain ⟨f66, h⟩ := h
    refine g_sld (pc := 436) hX hS f66 d_La_law_436 ?_
    refine g_aloadS (pc := 437) hX d_La_law_437 rfl 0 rfl ?_
    refine g_iload (pc := 438) hX d_La_law_438 5 rfl ?_
    refine g_iconst (pc := 440) (v := 3) hX d_La_law_440 (by decide) ?_
    refine g_iadd (pc := 441) hX d_La_law_441 ?_
    obtain ⟨f67, h⟩ := h
    refine g_sld (pc := 442) hX hS f67 d_La_law_442 ?_
    refine g_aload (pc := 443) hX d_La_law_443 4 rfl ?_
    refine g_callS_L (pc := 445) hX hR hC.2.2.1 ⟨by have := hC.2.2.2.1; omega, by have := hC.2.2.2.2; omega⟩ lkl_La_element mfl_La_element (c_La_element _ _ _ _ _ h) rfl rfl rfl ⟨by decide, by decide⟩ (cat_sum _ (Nat.le_of_ble_eq_true rfl)) d_La_law_445 (fun r69 A68 h => ?_)
    replace hC := LawC_up hC; replace hX := hC.1; replace hR := hC.2.1; replace hN : xnL (up1 X) = 9 := hN; replace hS : ScX (up1 X) E b L zs := hS; replace hU : up1 X = X ∨ up1 X = up1 X := Or.inr rfl
    refine g_istore (pc := 448) (lv0 := [(5, .int (i)), (0, .ref b), (1, cr E 1), (2, cr E 250), (3, cr E 28), (4, cr E 29)]) hX d_La_law_448 (by rw [hN]; decide) (g_st1b (ks := [5, 0, 1, 2, 3, 4]) rfl rfl rfl rfl) ?_
    refine g_aload_n (pc := 450) hX d_La_law_450 rfl 4 rfl ?_
    refine g_aloadS (pc := 451) hX d_La_law_451 rfl 2 rfl ?_
    refine g_iload (pc := 452) hX d_La_law_452 1 rfl ?_
    refine g_iconst (pc := 454) (v := 1) hX d_La_law_454 (by decide) ?_
    refine g_iadd (pc := 455) hX d_La_law_455 ?_
    obtain ⟨f70, h⟩ := h
    refine g_sld (pc := 456) hX hS f70 d_La_law_456 ?_
    refine g_aloadS (pc := 457) hX d_La_law_457 rfl 2 rfl ?_
    refine g_iload (pc := 458) hX d_La_law_458 1 rfl ?_
    refine g_iconst (pc := 460) (v := 2) hX d_La_law_460 (by decide) ?_
    refine g_iadd (pc := 461) hX d_La_law_461 ?_
    obtain ⟨f71, h⟩ := h
    refine g_sld (pc := 462) hX hS f71 d_La_law_462 ?_
    refine g_aloadS (pc := 463) hX d_La_law_463 rfl 2 rfl ?_
    refine g_iload (pc := 464) hX d_La_law_464 1 rfl ?_
    refine g_iconst (pc := 466) (v := 3) hX d_La_law_466 (by decide) ?_
    refine g_iadd (pc := 467) hX d_La_law_467 ?_
    obtain ⟨f72, h⟩ := h
    refine g_sld (pc := 468) hX hS f72 d_La_law_468 ?_
    obtain ⟨f75, h⟩ := h
    refine g_callV_D (pc := 469) hX hR f75 cf9 rfl lk_La_81 mf_Mo_element (c_Mo_element _ _ _ _ _ _ h) rfl rfl rfl ⟨by decide, by decide⟩ (cat_sum _ (Nat.le_of_ble_eq_true rfl)) d_La_law_469 (fun r74 A73 h => ?_)
    refine g_dstore (pc := 472) (lv0 := [(6, .int (r69)), (5, .int (i)), (0, .ref b), (1, cr E 1), (2, cr E 250), (3, cr E 28), (4, cr E 29)]) hX d_La_law_472 (by rw [hN]; decide) (g_st2b (ks := [0, 1, 2, 3, 4, 5, 6]) rfl rfl rfl rfl rfl) ?_
    refine g_aload_n (pc := 474) hX d_La_law_474 rfl 5 rfl ?_
    refine g_callV_I (pc := 475) hX hR f75 cf9 rfl lk_La_53 mf_Mo_thrown (c_Mo_thrown _ _ _ h) rfl rfl rfl ⟨by decide, by decide⟩ (cat_sum _ (Nat.le_of_ble_eq_true rfl)) d_La_law_475 (fun r77 A76 h => ?_)
    refine g_iload (pc := 478) hX d_La_law_478 1 rfl ?_
    refine g_icmp_eq (pc := 480) (tgt := 485) hX d_La_law_480 (by decide) (fun q => ?_) (fun q => ?_)
    · have h := h.1 q
      refine g_iload (pc := 485) hX d_La_law_485 1 rfl ?_
      refine g_if_ne (pc := 487) (tgt := 522) hX d_La_law_487 (by decide) (fun q => ?_) (fun q => ?_)
      · have h := h.1 q
        refine g_goto (pc := 522) (tgt := 563) hX d_La_law_522 (by decide) ?_
        refine g_iinc (pc := 563) (v := (i + 4)) (lv0 := [(4, cr E 29), (7, .double (r74)), (6, .int (r69)), (0, .ref b), (1, cr E 1), (2, cr E 250), (3, cr E 28)]) hX d_La_law_563 2 rfl rfl (by rw [hN]; decide) (g_st1b (ks := [7, 0, 1, 3, 4, 5, 6]) rfl (cr_cat _ _) rfl rfl) ?_
        refine g_goto (pc := 566) (tgt := 28) hX d_La_law_566 (by decide) ?_
        refine g_sub [4, 5, 6, 7, 1, 0] rfl ?_
        exact next _ _ hU h
      · have h := h.2 q
        refine g_aload (pc := 490) hX d_La_law_490 7 rfl ?_
        refine g_iconst (pc := 492) (v := 0) hX d_La_law_492 (by decide) ?_
        obtain ⟨f78, h⟩ := h
        obtain ⟨f79, h⟩ := h
        refine g_daload (pc := 493) hX f78 f79 d_La_law_493 ?_
        refine g_dload (pc := 494) hX d_La_law_494 0 rfl ?_
        refine g_dcmp (pc := 496) hX d_La_law_496 ?_
        refine g_if_eq (pc := 497) (tgt := 522) hX d_La_law_497 (by decide) (fun q => ?_) (fun q => ?_)
        · have h := h.1 q
          refine g_goto (pc := 522) (tgt := 563) hX d_La_law_522 (by decide) ?_
          refine g_iinc (pc := 563) (v := (i + 4)) (lv0 := [(4, cr E 29), (7, .double (r74)), (6, .int (r69)), (0, .ref b), (1, cr E 1), (2, cr E 250), (3, cr E 28)]) hX d_La_law_563 2 rfl rfl (by rw [hN]; decide) (g_st1b (ks := [7, 0, 1, 3, 4, 5, 6]) rfl (cr_cat _ _) rfl rfl) ?_
          refine g_goto (pc := 566) (tgt := 28) hX d_La_law_566 (by decide) ?_
          refine g_sub [4, 5, 6, 7, 1, 0] rfl ?_
          exact next _ _ hU h
        · have h := h.2 q
          refine g_aload (pc := 500) hX d_La_law_500 7 rfl ?_
          refine g_iconst (pc := 502) (v := 0) hX d_La_law_502 (by decide) ?_
          refine g_daload (pc := 503) hX f78 f79 d_La_law_503 ?_
          refine g_aload (pc := 504) hX d_La_law_504 7 rfl ?_
          refine g_iconst (pc := 506) (v := 0) hX d_La_law_506 (by decide) ?_
          refine g_daload (pc := 507) hX f78 f79 d_La_law_507 ?_
          refine g_dcmp (pc := 508) hX d_La_law_508 ?_
          refine g_if_eq (pc := 509) (tgt := 520) hX d_La_law_509 (by decide) (fun q => ?_) (fun q => ?_)
          · have h := h.1 q
            refine g_iconst (pc := 520) (v := 0) hX d_La_law_520 (by decide) ?_
            exact h.elim
          · have h := h.2 q
            refine g_dload (pc := 512) hX d_La_law_512 0 rfl ?_
            refine g_dload (pc := 514) hX d_La_law_514 0 rfl ?_
            refine g_dcmp (pc := 516) hX d_La_law_516 ?_
            refine g_if_ne (pc := 517) (tgt := 522) hX d_La_law_517 (by decide) (fun q => ?_) (fun q => ?_)
            · have h := h.1 q
              refine g_goto (pc := 522) (tgt := 563) hX d_La_law_522 (by decide) ?_
              refine g_iinc (pc := 563) (v := (i + 4)) (lv0 := [(4, cr E 29), (7, .double (r74)), (6, .int (r69)), (0, .ref b), (1, cr E 1), (2, cr E 250), (3, cr E 28)]) hX d_La_law_563 2 rfl rfl (by rw [hN]; decide) (g_st1b (ks := [7, 0, 1, 3, 4, 5, 6]) rfl (cr_cat _ _) rfl rfl) ?_
              refine g_goto (pc := 566) (tgt := 28) hX d_La_law_566 (by decide) ?_
              refine g_sub [4, 5, 6, 7, 1, 0] rfl ?_
              exact next _ _ hU h
            · have h := h.2 q
              refine g_iconst (pc := 520) (v := 0) hX d_La_law_520 (by decide) ?_
              exact h.elim
    · have h := h.2 q
      refine g_iconst (pc := 483) (v := 0) hX d_La_law_483 (by decide) ?_
      exact h.elim
  by_cases q8 : ((zs (Int32.toNatClampNeg i)) &&& 15) = 8
  · have h := h.2.2.2.2.2.2.2.2.1 q8
    refine g_tabin (pc := 44) (tgt := 525) (off := 481) hX (v := 8) q8 d_La_law_44 (by decide) (by decide) (by decide +kernel) (by decide) ?_
    refine g_aload_n (pc := 525) hX d_La_law_525 rfl 1 rfl ?_
    obtain ⟨f82, h⟩ := h
    refine g_callV_I (pc := 526) hX hR f82 cf1 rfl lk_La_82 mf_BM_at (c_BM_at _ _ _ h) rfl rfl rfl ⟨by decide, by decide⟩ (cat_sum _ (Nat.le_of_ble_eq_true rfl)) d_La_law_526 (fun r81 A80 h => ?_)
    refine g_aload_n (pc := 529) hX d_La_law_529 rfl 2 rfl ?_
    obtain ⟨f85, h⟩ := h
    refine g_callV_I (pc := 530) hX hR f85 cf9 rfl lk_La_85 mf_Mo_at (c_Mo_at _ _ _ h) rfl rfl rfl ⟨by decide, by decide⟩ (cat_sum _ (Nat.le_of_ble_eq_true rfl)) d_La_law_530 (fun r84 A83 h => ?_)
    refine g_icmp_eq (pc := 533) (tgt := 563) hX d_La_law_533 (by decide) (fun q => ?_) (fun q => ?_)
    · have h := h.1 q
      refine g_iinc (pc := 563) (v := (i + 4)) (lv0 := [(4, cr E 29), (0, .ref b), (1, cr E 1), (2, cr E 250), (3, cr E 28)]) hX d_La_law_563 5 rfl rfl (by rw [hN]; decide) (g_st1b (ks := [4, 0, 1, 2, 3]) rfl (cr_cat _ _) rfl rfl) ?_
      refine g_goto (pc := 566) (tgt := 28) hX d_La_law_566 (by decide) ?_
      refine g_sub [2, 3, 4, 5, 1, 0] rfl ?_
      exact next _ _ hU h
    · have h := h.2 q
      refine g_iconst (pc := 536) (v := 0) hX d_La_law_536 (by decide) ?_
      exact h.elim
  by_cases q9 : ((zs (Int32.toNatClampNeg i)) &&& 15) = 9
  · have h := h.2.2.2.2.2.2.2.2.2.1 q9
    refine g_tabin (pc := 44) (tgt := 538) (off := 494) hX (v := 9) q9 d_La_law_44 (by decide) (by decide) (by decide +kernel) (by decide) ?_
    refine g_aload_n (pc := 538) hX d_La_law_538 rfl 1 rfl ?_
    refine g_aloadS (pc := 539) hX d_La_law_539 rfl 0 rfl ?_
    refine g_iload (pc := 540) hX d_La_law_540 5 rfl ?_
    refine g_iconst (pc := 542) (v := 1) hX d_La_law_542 (by decide) ?_
    refine g_iadd (pc := 543) hX d_La_law_543 ?_
    obtain ⟨f86, h⟩ := h
    refine g_sld (pc := 544) hX hS f86 d_La_law_544 ?_
    obtain ⟨f89, h⟩ := h
    refine g_callV_I (pc := 545) hX hR f89 cf1 rfl lk_La_86 mf_BM_count (c_BM_count _ _ _ _ h) rfl rfl rfl ⟨by decide, by decide⟩ (cat_sum _ (Nat.le_of_ble_eq_true rfl)) d_La_law_545 (fun r88 A87 h => ?_)
    refine g_aload_n (pc := 548) hX d_La_law_548 rfl 2 rfl ?_
    refine g_aloadS (pc := 549) hX d_La_law_549 rfl 0 rfl ?_
    refine g_iload (pc := 550) hX d_La_law_550 5 rfl ?_
    refine g_iconst (pc := 552) (v := 1) hX d_La_law_552 (by decide) ?_
    refine g_iadd (pc := 553) hX d_La_law_553 ?_
    refine g_sld (pc := 554) hX hS f86 d_La_law_554 ?_
    obtain ⟨f92, h⟩ := h
    refine g_callV_I (pc := 555) hX hR f92 cf9 rfl lk_La_89 mf_Mo_count (c_Mo_count _ _ _ _ h) rfl rfl rfl ⟨by decide, by decide⟩ (cat_sum _ (Nat.le_of_ble_eq_true rfl)) d_La_law_555 (fun r91 A90 h => ?_)
    refine g_icmp_eq (pc := 558) (tgt := 563) hX d_La_law_558 (by decide) (fun q => ?_) (fun q => ?_)
    · have h := h.1 q
      refine g_iinc (pc := 563) (v := (i + 4)) (lv0 := [(4, cr E 29), (0, .ref b), (1, cr E 1), (2, cr E 250), (3, cr E 28)]) hX d_La_law_563 5 rfl rfl (by rw [hN]; decide) (g_st1b (ks := [4, 0, 1, 2, 3]) rfl (cr_cat _ _) rfl rfl) ?_
      refine g_goto (pc := 566) (tgt := 28) hX d_La_law_566 (by decide) ?_
      refine g_sub [2, 3, 4, 5, 1, 0] rfl ?_
      exact next _ _ hU h
    · have h := h.2 q
      refine g_iconst (pc := 561) (v := 0) hX d_La_law_561 (by decide) ?_
      exact h.elim
  have h := h.2.2.2.2.2.2.2.2.2.2 q0 q1 q2 q3 q4 q5 q6 q7 q8 q9
  refine g_tabout (pc := 44) (tgt := 563) hX (vs := [(0 : Int32), (1 : Int32), (2 : Int32), (3 : Int32), (4 : Int32), (5 : Int32), (6 : Int32), (7 : Int32), (8 : Int32), (9 : Int32)]) (List.forall_mem_cons.mpr ⟨q0, List.forall_mem_cons.mpr ⟨q1, List.forall_mem_cons.mpr ⟨q2, List.forall_mem_cons.mpr ⟨q3, List.forall_mem_cons.mpr ⟨q4, List.forall_mem_cons.mpr ⟨q5, List.forall_mem_cons.mpr ⟨q6, List.forall_mem_cons.mpr ⟨q7, List.forall_mem_cons.mpr ⟨q8, List.forall_mem_cons.mpr ⟨q9, fun _ h9 => absurd h9 List.not_mem_nil⟩⟩⟩⟩⟩⟩⟩⟩⟩⟩) d_La_law_44 (by decide +kernel) (by decide) ?_
  refine g_iinc (pc := 563) (v := (i + 4)) (lv0 := [(4, cr E 29), (0, .ref b), (1, cr E 1), (2, cr E 250), (3, cr E 28)]) hX d_La_law_563 5 rfl rfl (by rw [hN]; decide) (g_st1b (ks := [4, 0, 1, 2, 3]) rfl (cr_cat _ _) rfl rfl) ?_
  refine g_goto (pc := 566) (tgt := 28) hX d_La_law_566 (by decide) ?_
  refine g_sub [2, 3, 4, 5, 1, 0] rfl ?_
  exact next _ _ hU h
