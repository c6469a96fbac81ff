def wA_X11 : List m3C := [(0, 11, [(1, 0), (0, 0), (1, 0), (0, 0), (1, 0), (1, 0), (1, 0), (0, 0), (1, 0), (1, 0), (1, 0), (1, 0), (1, 0), (1, 0), (1, 0), (1, 0), (1, 0), (1, 0), (1, 0), (1, 0)])]
def wB_X11 : List m3C := [(0, 11, [(3, 0), (0, 0), (4, 0), (0, 0), (5, 0), (6, 0), (7, 0), (0, 0), (8, 0), (9, 0), (10, 0), (17, 0), (26, 0), (27, 0), (34, 0), (39, 0), (48, 0), (51, 0), (87, 0), (162, 0)]),
  (2, 80, []),
  (4, 16, []),
  (3, 20, []),
  (3, 20, []),
  (3, 20, []),
  (4, 61, []),
  (6, 4, [(167, 0), (172, 0), (177, 0), (182, 0)]),
  (0, 0, [(11, 0), (12, 0), (13, 0), (14, 0), (15, 0), (16, 0), (0, 0), (0, 0)]),
  (3, 20, []),
  (3, 20, []),
  (5, 20, []),
  (3, 20, []),
  (3, 20, []),
  (3, 20, []),
  (0, 6, [(18, 0), (19, 0), (20, 0), (21, 0), (22, 0), (23, 0), (24, 0), (25, 0), (0, 0)]),
  (3, 8, []),
  (3, 8, []),
  (5, 8, []),
  (3, 8, []),
  (3, 8, []),
  (5, 8, []),
  (5, 8, []),
  (5, 8, []),
  (0, 2, [(3, 0), (10, 0), (17, 0), (0, 0), (0, 0), (0, 0), (0, 0), (0, 0)]),
  (0, 7, [(3, 0), (28, 0), (0, 0), (0, 0), (29, 0), (0, 0), (30, 0), (0, 0), (31, 0), (0, 0), (0, 0), (0, 0), (0, 0), (32, 0), (33, 0)]),
  (3, 40, []),
  (3, 40, []),
  (3, 40, []),
  (5, 5, []),
  (3, 40, []),
  (3, 6, []),
  (0, 8, [(10, 0), (35, 0), (36, 0), (37, 0), (38, 0)]),
  (3, 20, []),
  (3, 12, []),
  (3, 12, []),
  (3, 12, []),
  (0, 1, [(40, 0), (41, 0), (42, 0), (43, 0), (44, 0), (45, 0), (0, 0), (0, 0), (46, 0), (47, 0), (0, 0)]),
  (3, 21, []),
  (3, 21, []),
  (5, 21, []),
  (3, 21, []),
  (3, 21, []),
  (3, 20, []),
  (3, 12, []),
  (3, 12, []),
  (0, 10, [(10, 0), (17, 0), (34, 0), (27, 0), (49, 0), (50, 0), (0, 1), (0, 0), (0, 0)]),
  (3, 20, []),
  (3, 20, []),
  (0, 4, [(10, 0), (17, 0), (48, 0), (52, 0), (53, 0), (54, 0), (55, 0), (0, 0), (0, 0), (0, 0), (0, 0), (0, 0), (0, 0), (56, 0), (0, 0)]),
  (6, 6, [(57, 0), (62, 0), (67, 0), (72, 0), (77, 0), (82, 0)]),
  (3, 6, []),
  (3, 6, []),
  (3, 6, []),
  (3, 6, []),
  (0, 3, [(58, 0), (59, 0), (60, 0), (61, 0), (0, 0), (0, 0), (0, 0), (0, 0)]),
  (3, 20, []),
  (3, 8, []),
  (5, 8, []),
  (5, 8, []),
  (0, 3, [(63, 0), (64, 0), (65, 0), (66, 0), (0, 0), (0, 0), (0, 0), (0, 0)]),
  (3, 20, []),
  (3, 8, []),
  (5, 8, []),
  (5, 8, []),
  (0, 3, [(68, 0), (69, 0), (70, 0), (71, 0), (0, 0), (0, 0), (0, 0), (0, 0)]),
  (3, 20, []),
  (3, 8, []),
  (5, 8, []),
  (5, 8, []),
  (0, 3, [(73, 0), (74, 0), (75, 0), (76, 0), (0, 0), (0, 0), (0, 0), (0, 0)]),
  (3, 20, []),
  (3, 8, []),
  (5, 8, []),
  (5, 8, []),
  (0, 3, [(78, 0), (79, 0), (80, 0), (81, 0), (0, 0), (0, 0), (0, 0), (0, 0)]),
  (3, 20, []),
  (3, 8, []),
  (5, 8, []),
  (5, 8, []),
  (0, 3, [(83, 0), (84, 0), (85, 0), (86, 0), (0, 0), (0, 0), (0, 0), (0, 0)]),
  (3, 20, []),
  (3, 8, []),
  (5, 8, []),
  (5, 8, []),
  (0, 9, [(34, 0), (88, 0), (89, 0), (96, 0), (161, 0), (0, 0)]),
  (3, 6, []),
  (7, 6, [(90, 0), (91, 0), (92, 0), (93, 0), (94, 0), (95, 0)]),
  (3, 12, []),
  (3, 12, []),
  (3, 12, []),
  (3, 12, []),
  (3, 12, []),
  (3, 12, []),
  (7, 64, [(97, 0), (98, 0), (99, 0), (100, 0), (101, 0), (102, 0), (103, 0), (104, 0), (105, 0), (106, 0), (107, 0), (108, 0), (109, 0), (110, 0), (111, 0), (112, 0), (113, 0), (114, 0), (115, 0), (116, 0), (117, 0), (118, 0), (119, 0), (120, 0), (121, 0), (122, 0), (123, 0), (124, 0), (125, 0), (126, 0), (127, 0), (128, 0), (129, 0), (130, 0), (131, 0), (132, 0), (133, 0), (134, 0), (135, 0), (136, 0), (137, 0), (138, 0), (139, 0), (140, 0), (141, 0), (142, 0), (143, 0), (144, 0), (145, 0), (146, 0), (147, 0), (148, 0), (149, 0), (150, 0), (151, 0), (152, 0), (153, 0), (154, 0), (155, 0), (156, 0), (157, 0), (158, 0), (159, 0), (160, 0)]),
  (3, 6, []),
  (3, 6, []),
  (3, 6, []),
  (3, 6, []),
  (3, 6, []),
  (3, 6, []),
  (3, 6, []),
  (3, 6, []),
  (3, 6, []),
  (3, 6, []),
  (3, 6, []),
  (3, 6, []),
  (3, 6, []),
  (3, 6, []),
  (3, 6, []),
  (3, 6, []),
  (3, 6, []),
  (3, 6, []),
  (3, 6, []),
  (3, 6, []),
  (3, 6, []),
  (3, 6, []),
  (3, 6, []),
  (3, 6, []),
  (3, 6, []),
  (3, 6, []),
  (3, 6, []),
  (3, 6, []),
  (3, 6, []),
  (3, 6, []),
  (3, 6, []),
  (3, 6, []),
  (3, 6, []),
  (3, 6, []),
  (3, 6, []),
  (3, 6, []),
  (3, 6, []),
  (3, 6, []),
  (3, 6, []),
  (3, 6, []),
  (3, 6, []),
  (3, 6, []),
  (3, 6, []),
  (3, 6, []),
  (3, 6, []),
  (3, 6, []),
  (3, 6, []),
  (3, 6, []),
  (3, 6, []),
  (3, 6, []),
  (3, 6, []),
  (3, 6, []),
  (3, 6, []),
  (3, 6, []),
  (3, 6, []),
  (3, 6, []),
  (3, 6, []),
  (3, 6, []),
  (3, 6, []),
  (3, 6, []),
  (3, 6, []),
  (3, 6, []),
  (3, 6, []),
  (3, 6, []),
  (3, 6, []),
  (0, 5, [(10, 0), (34, 0), (163, 0), (164, 0), (165, 0), (0, 0), (166, 0), (0, 0), (0, 0), (0, 0), (0, 0), (0, 0), (0, 0), (0, 0)]),
  (3, 12, []),
  (3, 5, []),
  (3, 5, []),
  (3, 5, []),
  (0, 3, [(168, 0), (169, 0), (170, 0), (171, 0), (0, 0), (0, 0), (0, 0), (0, 0)]),
  (3, 20, []),
  (3, 8, []),
  (5, 8, []),
  (5, 8, []),
  (0, 3, [(173, 0), (174, 0), (175, 0), (176, 0), (0, 0), (0, 0), (0, 0), (0, 0)]),
  (3, 20, []),
  (3, 8, []),
  (5, 8, []),
  (5, 8, []),
  (0, 3, [(178, 0), (179, 0), (180, 0), (181, 0), (0, 0), (0, 0), (0, 0), (0, 0)]),
  (3, 20, []),
  (3, 8, []),
  (5, 8, []),
  (5, 8, []),
  (0, 3, [(183, 0), (184, 0), (185, 0), (186, 0), (0, 0), (0, 0), (0, 0), (0, 0)]),
  (3, 20, []),
  (3, 8, []),
  (5, 8, []),
  (5, 8, [])]
theorem dX11_init_0 : decode cX11_init 0 = .ok (.aload_n 0, 1) := by decide +kernel
theorem dX11_init_1 : decode cX11_init 1 = .ok (.invokespecial 1, 3) := by decide +kernel
theorem dX11_init_4 : decode cX11_init 4 = .ok (.aload_n 0, 1) := by decide +kernel
theorem dX11_init_5 : decode cX11_init 5 = .ok (.bipush 80, 2) := by decide +kernel
theorem dX11_init_7 : decode cX11_init 7 = .ok (.newarray .char, 2) := by decide +kernel
theorem dX11_init_9 : decode cX11_init 9 = .ok (.putfield 9, 3) := by decide +kernel
theorem dX11_init_12 : decode cX11_init 12 = .ok (.aload_n 0, 1) := by decide +kernel
theorem dX11_init_13 : decode cX11_init 13 = .ok (.bipush 16, 2) := by decide +kernel
theorem dX11_init_15 : decode cX11_init 15 = .ok (.newarray .long, 2) := by decide +kernel
theorem dX11_init_17 : decode cX11_init 17 = .ok (.putfield 13, 3) := by decide +kernel
theorem dX11_init_20 : decode cX11_init 20 = .ok (.aload_n 0, 1) := by decide +kernel
theorem dX11_init_21 : decode cX11_init 21 = .ok (.bipush 20, 2) := by decide +kernel
theorem dX11_init_23 : decode cX11_init 23 = .ok (.newarray .int, 2) := by decide +kernel
theorem dX11_init_25 : decode cX11_init 25 = .ok (.putfield 17, 3) := by decide +kernel
theorem dX11_init_28 : decode cX11_init 28 = .ok (.aload_n 0, 1) := by decide +kernel
theorem dX11_init_29 : decode cX11_init 29 = .ok (.bipush 20, 2) := by decide +kernel
theorem dX11_init_31 : decode cX11_init 31 = .ok (.newarray .int, 2) := by decide +kernel
theorem dX11_init_33 : decode cX11_init 33 = .ok (.putfield 21, 3) := by decide +kernel
theorem dX11_init_36 : decode cX11_init 36 = .ok (.aload_n 0, 1) := by decide +kernel
theorem dX11_init_37 : decode cX11_init 37 = .ok (.bipush 20, 2) := by decide +kernel
theorem dX11_init_39 : decode cX11_init 39 = .ok (.newarray .int, 2) := by decide +kernel
theorem dX11_init_41 : decode cX11_init 41 = .ok (.putfield 24, 3) := by decide +kernel
theorem dX11_init_44 : decode cX11_init 44 = .ok (.aload_n 0, 1) := by decide +kernel
theorem dX11_init_45 : decode cX11_init 45 = .ok (.bipush 61, 2) := by decide +kernel
theorem dX11_init_47 : decode cX11_init 47 = .ok (.newarray .long, 2) := by decide +kernel
theorem dX11_init_49 : decode cX11_init 49 = .ok (.putfield 27, 3) := by decide +kernel
theorem dX11_init_52 : decode cX11_init 52 = .ok (.aload_n 0, 1) := by decide +kernel
theorem dX11_init_53 : decode cX11_init 53 = .ok (.iconst 4, 1) := by decide +kernel
theorem dX11_init_54 : decode cX11_init 54 = .ok (.anewarray 30, 3) := by decide +kernel
theorem dX11_init_57 : decode cX11_init 57 = .ok (.putfield 32, 3) := by decide +kernel
theorem dX11_init_60 : decode cX11_init 60 = .ok (.aload_n 0, 1) := by decide +kernel
theorem dX11_init_61 : decode cX11_init 61 = .ok (.new 36, 3) := by decide +kernel
theorem dX11_init_64 : decode cX11_init 64 = .ok (.dup, 1) := by decide +kernel
theorem dX11_init_65 : decode cX11_init 65 = .ok (.invokespecial 38, 3) := by decide +kernel
theorem dX11_init_68 : decode cX11_init 68 = .ok (.putfield 39, 3) := by decide +kernel
theorem dX11_init_71 : decode cX11_init 71 = .ok (.aload_n 0, 1) := by decide +kernel
theorem dX11_init_72 : decode cX11_init 72 = .ok (.new 43, 3) := by decide +kernel
theorem dX11_init_75 : decode cX11_init 75 = .ok (.dup, 1) := by decide +kernel
theorem dX11_init_76 : decode cX11_init 76 = .ok (.invokespecial 45, 3) := by decide +kernel
theorem dX11_init_79 : decode cX11_init 79 = .ok (.putfield 46, 3) := by decide +kernel
theorem dX11_init_82 : decode cX11_init 82 = .ok (.aload_n 0, 1) := by decide +kernel
theorem dX11_init_83 : decode cX11_init 83 = .ok (.new 50, 3) := by decide +kernel
theorem dX11_init_86 : decode cX11_init 86 = .ok (.dup, 1) := by decide +kernel
theorem dX11_init_87 : decode cX11_init 87 = .ok (.aload_n 0, 1) := by decide +kernel
theorem dX11_init_88 : decode cX11_init 88 = .ok (.getfield 9, 3) := by decide +kernel
theorem dX11_init_91 : decode cX11_init 91 = .ok (.aload_n 0, 1) := by decide +kernel
theorem dX11_init_92 : decode cX11_init 92 = .ok (.getfield 39, 3) := by decide +kernel
theorem dX11_init_95 : decode cX11_init 95 = .ok (.aload_n 0, 1) := by decide +kernel
theorem dX11_init_96 : decode cX11_init 96 = .ok (.getfield 46, 3) := by decide +kernel
theorem dX11_init_99 : decode cX11_init 99 = .ok (.invokespecial 52, 3) := by decide +kernel
theorem dX11_init_102 : decode cX11_init 102 = .ok (.putfield 55, 3) := by decide +kernel
theorem dX11_init_105 : decode cX11_init 105 = .ok (.aload_n 0, 1) := by decide +kernel
theorem dX11_init_106 : decode cX11_init 106 = .ok (.new 59, 3) := by decide +kernel
theorem dX11_init_109 : decode cX11_init 109 = .ok (.dup, 1) := by decide +kernel
theorem dX11_init_110 : decode cX11_init 110 = .ok (.aload_n 0, 1) := by decide +kernel
theorem dX11_init_111 : decode cX11_init 111 = .ok (.getfield 9, 3) := by decide +kernel
theorem dX11_init_114 : decode cX11_init 114 = .ok (.invokespecial 61, 3) := by decide +kernel
theorem dX11_init_117 : decode cX11_init 117 = .ok (.putfield 64, 3) := by decide +kernel
theorem dX11_init_120 : decode cX11_init 120 = .ok (.aload_n 0, 1) := by decide +kernel
theorem dX11_init_121 : decode cX11_init 121 = .ok (.new 68, 3) := by decide +kernel
theorem dX11_init_124 : decode cX11_init 124 = .ok (.dup, 1) := by decide +kernel
theorem dX11_init_125 : decode cX11_init 125 = .ok (.aload_n 0, 1) := by decide +kernel
theorem dX11_init_126 : decode cX11_init 126 = .ok (.getfield 39, 3) := by decide +kernel
theorem dX11_init_129 : decode cX11_init 129 = .ok (.invokespecial 70, 3) := by decide +kernel
theorem dX11_init_132 : decode cX11_init 132 = .ok (.putfield 73, 3) := by decide +kernel
theorem dX11_init_135 : decode cX11_init 135 = .ok (.aload_n 0, 1) := by decide +kernel
theorem dX11_init_136 : decode cX11_init 136 = .ok (.new 77, 3) := by decide +kernel
theorem dX11_init_139 : decode cX11_init 139 = .ok (.dup, 1) := by decide +kernel
theorem dX11_init_140 : decode cX11_init 140 = .ok (.invokespecial 79, 3) := by decide +kernel
theorem dX11_init_143 : decode cX11_init 143 = .ok (.putfield 80, 3) := by decide +kernel
theorem dX11_init_146 : decode cX11_init 146 = .ok (.aload_n 0, 1) := by decide +kernel
theorem dX11_init_147 : decode cX11_init 147 = .ok (.new 84, 3) := by decide +kernel
theorem dX11_init_150 : decode cX11_init 150 = .ok (.dup, 1) := by decide +kernel
theorem dX11_init_151 : decode cX11_init 151 = .ok (.aload_n 0, 1) := by decide +kernel
theorem dX11_init_152 : decode cX11_init 152 = .ok (.getfield 39, 3) := by decide +kernel
theorem dX11_init_155 : decode cX11_init 155 = .ok (.aload_n 0, 1) := by decide +kernel
theorem dX11_init_156 : decode cX11_init 156 = .ok (.getfield 46, 3) := by decide +kernel
theorem dX11_init_159 : decode cX11_init 159 = .ok (.aload_n 0, 1) := by decide +kernel
theorem dX11_init_160 : decode cX11_init 160 = .ok (.getfield 73, 3) := by decide +kernel
theorem dX11_init_163 : decode cX11_init 163 = .ok (.aload_n 0, 1) := by decide +kernel
theorem dX11_init_164 : decode cX11_init 164 = .ok (.getfield 64, 3) := by decide +kernel
theorem dX11_init_167 : decode cX11_init 167 = .ok (.invokespecial 86, 3) := by decide +kernel
theorem dX11_init_170 : decode cX11_init 170 = .ok (.putfield 89, 3) := by decide +kernel
theorem dX11_init_173 : decode cX11_init 173 = .ok (.aload_n 0, 1) := by decide +kernel
theorem dX11_init_174 : decode cX11_init 174 = .ok (.new 93, 3) := by decide +kernel
theorem dX11_init_177 : decode cX11_init 177 = .ok (.dup, 1) := by decide +kernel
theorem dX11_init_178 : decode cX11_init 178 = .ok (.aload_n 0, 1) := by decide +kernel
theorem dX11_init_179 : decode cX11_init 179 = .ok (.getfield 39, 3) := by decide +kernel
theorem dX11_init_182 : decode cX11_init 182 = .ok (.aload_n 0, 1) := by decide +kernel
theorem dX11_init_183 : decode cX11_init 183 = .ok (.getfield 46, 3) := by decide +kernel
theorem dX11_init_186 : decode cX11_init 186 = .ok (.aload_n 0, 1) := by decide +kernel
theorem dX11_init_187 : decode cX11_init 187 = .ok (.getfield 89, 3) := by decide +kernel
theorem dX11_init_190 : decode cX11_init 190 = .ok (.invokespecial 95, 3) := by decide +kernel
theorem dX11_init_193 : decode cX11_init 193 = .ok (.putfield 98, 3) := by decide +kernel
theorem dX11_init_196 : decode cX11_init 196 = .ok (.aload_n 0, 1) := by decide +kernel
theorem dX11_init_197 : decode cX11_init 197 = .ok (.new 102, 3) := by decide +kernel
theorem dX11_init_200 : decode cX11_init 200 = .ok (.dup, 1) := by decide +kernel
theorem dX11_init_201 : decode cX11_init 201 = .ok (.aload_n 0, 1) := by decide +kernel
theorem dX11_init_202 : decode cX11_init 202 = .ok (.getfield 73, 3) := by decide +kernel
theorem dX11_init_205 : decode cX11_init 205 = .ok (.invokespecial 104, 3) := by decide +kernel
theorem dX11_init_208 : decode cX11_init 208 = .ok (.putfield 107, 3) := by decide +kernel
theorem dX11_init_211 : decode cX11_init 211 = .ok (.aload_n 0, 1) := by decide +kernel
theorem dX11_init_212 : decode cX11_init 212 = .ok (.new 111, 3) := by decide +kernel
theorem dX11_init_215 : decode cX11_init 215 = .ok (.dup, 1) := by decide +kernel
theorem dX11_init_216 : decode cX11_init 216 = .ok (.aload_n 0, 1) := by decide +kernel
theorem dX11_init_217 : decode cX11_init 217 = .ok (.getfield 39, 3) := by decide +kernel
theorem dX11_init_220 : decode cX11_init 220 = .ok (.aload_n 0, 1) := by decide +kernel
theorem dX11_init_221 : decode cX11_init 221 = .ok (.getfield 73, 3) := by decide +kernel
theorem dX11_init_224 : decode cX11_init 224 = .ok (.invokespecial 113, 3) := by decide +kernel
theorem dX11_init_227 : decode cX11_init 227 = .ok (.putfield 116, 3) := by decide +kernel
theorem dX11_init_230 : decode cX11_init 230 = .ok (.iconst 0, 1) := by decide +kernel
theorem dX11_init_231 : decode cX11_init 231 = .ok (.istore_n 1, 1) := by decide +kernel
theorem dX11_init_232 : decode cX11_init 232 = .ok (.iload_n 1, 1) := by decide +kernel
theorem dX11_init_233 : decode cX11_init 233 = .ok (.iconst 3, 1) := by decide +kernel
theorem dX11_init_234 : decode cX11_init 234 = .ok (.if_icmp .gt 22, 3) := by decide +kernel
theorem dX11_init_237 : decode cX11_init 237 = .ok (.aload_n 0, 1) := by decide +kernel
theorem dX11_init_238 : decode cX11_init 238 = .ok (.getfield 32, 3) := by decide +kernel
theorem dX11_init_241 : decode cX11_init 241 = .ok (.iload_n 1, 1) := by decide +kernel
theorem dX11_init_242 : decode cX11_init 242 = .ok (.new 30, 3) := by decide +kernel
theorem dX11_init_245 : decode cX11_init 245 = .ok (.dup, 1) := by decide +kernel
theorem dX11_init_246 : decode cX11_init 246 = .ok (.invokespecial 120, 3) := by decide +kernel
theorem dX11_init_249 : decode cX11_init 249 = .ok (.aastore, 1) := by decide +kernel
theorem dX11_init_250 : decode cX11_init 250 = .ok (.iinc 1 1, 3) := by decide +kernel
theorem dX11_init_253 : decode cX11_init 253 = .ok (.goto (-21), 3) := by decide +kernel
theorem dX11_init_256 : decode cX11_init 256 = .ok (.return_, 1) := by decide +kernel
set_option maxRecDepth 100000 in
set_option maxHeartbeats 4000000 in
theorem K_X11 {d : Nat} : m3_MT (d + 3) yX11_init cX11_init 2 [.ref 0] wA_X11 wB_X11 := by
  refine m3_MT.intro (ls := [.ref 0, .null]) (by decide) rfl rfl (by decide) (fun κ h => ?_)
  have hB := h.b
  refine m3_aload_n hB dX11_init_0 rfl ?_
  refine m3_objInit hB ol_X11_1 oi_obj oc_obj (by decide) dX11_init_1 ?_
  refine m3_aload_n hB dX11_init_4 rfl ?_
  refine m3_bipush hB dX11_init_5 (v := 80) (by decide) ?_
  refine m3_newC hB (N := 80) (c1 := 1) (by decide +kernel) (by decide) dX11_init_7 ?_
  refine m3_putF hB (c0 := 0) (vs := [(1, 0), (0, 0), (1, 0), (0, 0), (1, 0), (1, 0), (1, 0), (0, 0), (1, 0), (1, 0), (1, 0), (1, 0), (1, 0), (1, 0), (1, 0), (1, 0), (1, 0), (1, 0), (1, 0), (1, 0)]) dX11_init_9 fl_X11_9 (fun _ _ _ h => by cases h; rfl) (fun _ => ⟨rfl, rfl⟩) (by decide +kernel) (by decide +kernel) (by decide +kernel) ?_
  refine m3_aload_n hB dX11_init_12 rfl ?_
  refine m3_bipush hB dX11_init_13 (v := 16) (by decide) ?_
  refine m3_newJ hB (N := 16) (c1 := 2) (by decide +kernel) (by decide) dX11_init_15 ?_
  refine m3_putF hB (c0 := 0) (vs := [(3, 0), (0, 0), (1, 0), (0, 0), (1, 0), (1, 0), (1, 0), (0, 0), (1, 0), (1, 0), (1, 0), (1, 0), (1, 0), (1, 0), (1, 0), (1, 0), (1, 0), (1, 0), (1, 0), (1, 0)]) dX11_init_17 fl_X11_13 (fun _ _ _ h => by cases h; rfl) (fun _ => ⟨rfl, rfl⟩) (by decide +kernel) (by decide +kernel) (by decide +kernel) ?_
  refine m3_aload_n hB dX11_init_20 rfl ?_
  refine m3_bipush hB dX11_init_21 (v := 20) (by decide) ?_
  refine m3_newI hB (N := 20) (c1 := 3) (by decide +kernel) (by decide) dX11_init_23 ?_
  refine m3_putF hB (c0 := 0) (vs := [(3, 0), (0, 0), (4, 0), (0, 0), (1, 0), (1, 0), (1, 0), (0, 0), (1, 0), (1, 0), (1, 0), (1, 0), (1, 0), (1, 0), (1, 0), (1, 0), (1, 0), (1, 0), (1, 0), (1, 0)]) dX11_init_25 fl_X11_17 (fun _ _ _ h => by cases h; rfl) (fun _ => ⟨rfl, rfl⟩) (by decide +kernel) (by decide +kernel) (by decide +kernel) ?_
  refine m3_aload_n hB dX11_init_28 rfl ?_
  refine m3_bipush hB dX11_init_29 (v := 20) (by decide) ?_
  refine m3_newI hB (N := 20) (c1 := 4) (by decide +kernel) (by decide) dX11_init_31 ?_
  refine m3_putF hB (c0 := 0) (vs := [(3, 0), (0, 0), (4, 0), (0, 0), (5, 0), (1, 0), (1, 0), (0, 0), (1, 0), (1, 0), (1, 0), (1, 0), (1, 0), (1, 0), (1, 0), (1, 0), (1, 0), (1, 0), (1, 0), (1, 0)]) dX11_init_33 fl_X11_21 (fun _ _ _ h => by cases h; rfl) (fun _ => ⟨rfl, rfl⟩) (by decide +kernel) (by decide +kernel) (by decide +kernel) ?_
  refine m3_aload_n hB dX11_init_36 rfl ?_
  refine m3_bipush hB dX11_init_37 (v := 20) (by decide) ?_
  refine m3_newI hB (N := 20) (c1 := 5) (by decide +kernel) (by decide) dX11_init_39 ?_
  refine m3_putF hB (c0 := 0) (vs := [(3, 0), (0, 0), (4, 0), (0, 0), (5, 0), (6, 0), (1, 0), (0, 0), (1, 0), (1, 0), (1, 0), (1, 0), (1, 0), (1, 0), (1, 0), (1, 0), (1, 0), (1, 0), (1, 0), (1, 0)]) dX11_init_41 fl_X11_24 (fun _ _ _ h => by cases h; rfl) (fun _ => ⟨rfl, rfl⟩) (by decide +kernel) (by decide +kernel) (by decide +kernel) ?_
  refine m3_aload_n hB dX11_init_44 rfl ?_
  refine m3_bipush hB dX11_init_45 (v := 61) (by decide) ?_
  refine m3_newJ hB (N := 61) (c1 := 6) (by decide +kernel) (by decide) dX11_init_47 ?_
  refine m3_putF hB (c0 := 0) (vs := [(3, 0), (0, 0), (4, 0), (0, 0), (5, 0), (6, 0), (7, 0), (0, 0), (1, 0), (1, 0), (1, 0), (1, 0), (1, 0), (1, 0), (1, 0), (1, 0), (1, 0), (1, 0), (1, 0), (1, 0)]) dX11_init_49 fl_X11_27 (fun _ _ _ h => by cases h; rfl) (fun _ => ⟨rfl, rfl⟩) (by decide +kernel) (by decide +kernel) (by decide +kernel) ?_
  refine m3_aload_n hB dX11_init_52 rfl ?_
  refine m3_iconst hB dX11_init_53 (v := 4) (by decide) ?_
  refine m3_newK hB cl_X11_30 (N := 4) (c1 := 7) (by decide +kernel) (by decide) dX11_init_54 ?_
  refine m3_putF hB (c0 := 0) (vs := [(3, 0), (0, 0), (4, 0), (0, 0), (5, 0), (6, 0), (7, 0), (0, 0), (8, 0), (1, 0), (1, 0), (1, 0), (1, 0), (1, 0), (1, 0), (1, 0), (1, 0), (1, 0), (1, 0), (1, 0)]) dX11_init_57 fl_X11_32 (fun _ _ _ h => by cases h; rfl) (fun _ => ⟨rfl, rfl⟩) (by decide +kernel) (by decide +kernel) (by decide +kernel) ?_
  refine m3_aload_n hB dX11_init_60 rfl ?_
  refine m3_newO hB (C := RX0) (ci := 0) (N := 8) (vs := dfX0) (c1 := 8) kl_X0 cl_X11_36 (by decide +kernel) dX11_init_61 ?_
  refine m3_dup hB dX11_init_64 rfl ?_
  refine m3_to (μ' := wA_X0) (by decide +kernel) ?_
  refine m3_invN hB (c0 := 8) (as := []) dX11_init_65 jn_X11_38 rfl (by decide) rfl (by decide +kernel) (by decide +kernel) (by decide +kernel) (by decide +kernel) K_X0 ?_
  refine m3_putF hB (c0 := 0) (vs := [(3, 0), (0, 0), (4, 0), (0, 0), (5, 0), (6, 0), (7, 0), (0, 0), (8, 0), (9, 0), (1, 0), (1, 0), (1, 0), (1, 0), (1, 0), (1, 0), (1, 0), (1, 0), (1, 0), (1, 0)]) dX11_init_68 fl_X11_39 (fun _ _ _ h => by cases h; rfl) (fun _ => ⟨rfl, rfl⟩) (by decide +kernel) (by decide +kernel) (by decide +kernel) ?_
  refine m3_aload_n hB dX11_init_71 rfl ?_
  refine m3_newO hB (C := RX6) (ci := 6) (N := 9) (vs := dfX6) (c1 := 15) kl_X6 cl_X11_43 (by decide +kernel) dX11_init_72 ?_
  refine m3_dup hB dX11_init_75 rfl ?_
  refine m3_to (μ' := wA_X6) (by decide +kernel) ?_
  refine m3_invN hB (c0 := 15) (as := []) dX11_init_76 jn_X11_45 rfl (by decide) rfl (by decide +kernel) (by decide +kernel) (by decide +kernel) (by decide +kernel) K_X6 ?_
  refine m3_putF hB (c0 := 0) (vs := [(3, 0), (0, 0), (4, 0), (0, 0), (5, 0), (6, 0), (7, 0), (0, 0), (8, 0), (9, 0), (10, 0), (1, 0), (1, 0), (1, 0), (1, 0), (1, 0), (1, 0), (1, 0), (1, 0), (1, 0)]) dX11_init_79 fl_X11_46 (fun _ _ _ h => by cases h; rfl) (fun _ => ⟨rfl, rfl⟩) (by decide +kernel) (by decide +kernel) (by decide +kernel) ?_
  refine m3_aload_n hB dX11_init_82 rfl ?_
  refine m3_newO hB (C := RX2) (ci := 2) (N := 8) (vs := dfX2) (c1 := 24) kl_X2 cl_X11_50 (by decide +kernel) dX11_init_83 ?_
  refine m3_dup hB dX11_init_86 rfl ?_
  refine m3_aload_n hB dX11_init_87 rfl ?_
  refine m3_getR hB (c0 := 0) (c1 := 1) (x := 0) (vs := [(3, 0), (0, 0), (4, 0), (0, 0), (5, 0), (6, 0), (7, 0), (0, 0), (8, 0), (9, 0), (10, 0), (17, 0), (1, 0), (1, 0), (1, 0), (1, 0), (1, 0), (1, 0), (1, 0), (1, 0)]) dX11_init_88 fl_X11_9 (by decide +kernel) (by decide +kernel) ?_
  refine m3_aload_n hB dX11_init_91 rfl ?_
  refine m3_getR hB (c0 := 0) (c1 := 8) (x := 0) (vs := [(3, 0), (0, 0), (4, 0), (0, 0), (5, 0), (6, 0), (7, 0), (0, 0), (8, 0), (9, 0), (10, 0), (17, 0), (1, 0), (1, 0), (1, 0), (1, 0), (1, 0), (1, 0), (1, 0), (1, 0)]) dX11_init_92 fl_X11_39 (by decide +kernel) (by decide +kernel) ?_
  refine m3_aload_n hB dX11_init_95 rfl ?_
  refine m3_getR hB (c0 := 0) (c1 := 15) (x := 0) (vs := [(3, 0), (0, 0), (4, 0), (0, 0), (5, 0), (6, 0), (7, 0), (0, 0), (8, 0), (9, 0), (10, 0), (17, 0), (1, 0), (1, 0), (1, 0), (1, 0), (1, 0), (1, 0), (1, 0), (1, 0)]) dX11_init_96 fl_X11_46 (by decide +kernel) (by decide +kernel) ?_
  refine m3_to (μ' := wA_X2) (by decide +kernel) ?_
  refine m3_inv hB (c0 := 24) (as := [.ref 1, .ref 8, .ref 15]) dX11_init_99 ji_X11_52 rfl (by decide) rfl (by decide +kernel) (by decide +kernel) (by decide +kernel) (by decide +kernel) K_X2 ?_
  refine m3_putF hB (c0 := 0) (vs := [(3, 0), (0, 0), (4, 0), (0, 0), (5, 0), (6, 0), (7, 0), (0, 0), (8, 0), (9, 0), (10, 0), (17, 0), (1, 0), (1, 0), (1, 0), (1, 0), (1, 0), (1, 0), (1, 0), (1, 0)]) dX11_init_102 fl_X11_55 (fun _ _ _ h => by cases h; rfl) (fun _ => ⟨rfl, rfl⟩) (by decide +kernel) (by decide +kernel) (by decide +kernel) ?_
  refine m3_aload_n hB dX11_init_105 rfl ?_
  refine m3_newO hB (C := RX7) (ci := 7) (N := 15) (vs := dfX7) (c1 := 25) kl_X7 cl_X11_59 (by decide +kernel) dX11_init_106 ?_
  refine m3_dup hB dX11_init_109 rfl ?_
  refine m3_aload_n hB dX11_init_110 rfl ?_
  refine m3_getR hB (c0 := 0) (c1 := 1) (x := 0) (vs := [(3, 0), (0, 0), (4, 0), (0, 0), (5, 0), (6, 0), (7, 0), (0, 0), (8, 0), (9, 0), (10, 0), (17, 0), (26, 0), (1, 0), (1, 0), (1, 0), (1, 0), (1, 0), (1, 0), (1, 0)]) dX11_init_111 fl_X11_9 (by decide +kernel) (by decide +kernel) ?_
  refine m3_to (μ' := wA_X7) (by decide +kernel) ?_
  refine m3_inv hB (c0 := 25) (as := [.ref 1]) dX11_init_114 ji_X11_61 rfl (by decide) rfl (by decide +kernel) (by decide +kernel) (by decide +kernel) (by decide +kernel) K_X7 ?_
  refine m3_putF hB (c0 := 0) (vs := [(3, 0), (0, 0), (4, 0), (0, 0), (5, 0), (6, 0), (7, 0), (0, 0), (8, 0), (9, 0), (10, 0), (17, 0), (26, 0), (1, 0), (1, 0), (1, 0), (1, 0), (1, 0), (1, 0), (1, 0)]) dX11_init_117 fl_X11_64 (fun _ _ _ h => by cases h; rfl) (fun _ => ⟨rfl, rfl⟩) (by decide +kernel) (by decide +kernel) (by decide +kernel) ?_
  refine m3_aload_n hB dX11_init_120 rfl ?_
  refine m3_newO hB (C := RX8) (ci := 8) (N := 5) (vs := dfX8) (c1 := 32) kl_X8 cl_X11_68 (by decide +kernel) dX11_init_121 ?_
  refine m3_dup hB dX11_init_124 rfl ?_
  refine m3_aload_n hB dX11_init_125 rfl ?_
  refine m3_getR hB (c0 := 0) (c1 := 8) (x := 0) (vs := [(3, 0), (0, 0), (4, 0), (0, 0), (5, 0), (6, 0), (7, 0), (0, 0), (8, 0), (9, 0), (10, 0), (17, 0), (26, 0), (27, 0), (1, 0), (1, 0), (1, 0), (1, 0), (1, 0), (1, 0)]) dX11_init_126 fl_X11_39 (by decide +kernel) (by decide +kernel) ?_
  refine m3_to (μ' := wA_X8) (by decide +kernel) ?_
  refine m3_inv hB (c0 := 32) (as := [.ref 8]) dX11_init_129 ji_X11_70 rfl (by decide) rfl (by decide +kernel) (by decide +kernel) (by decide +kernel) (by decide +kernel) K_X8 ?_
  refine m3_putF hB (c0 := 0) (vs := [(3, 0), (0, 0), (4, 0), (0, 0), (5, 0), (6, 0), (7, 0), (0, 0), (8, 0), (9, 0), (10, 0), (17, 0), (26, 0), (27, 0), (1, 0), (1, 0), (1, 0), (1, 0), (1, 0), (1, 0)]) dX11_init_132 fl_X11_73 (fun _ _ _ h => by cases h; rfl) (fun _ => ⟨rfl, rfl⟩) (by decide +kernel) (by decide +kernel) (by decide +kernel) ?_
  refine m3_aload_n hB dX11_init_135 rfl ?_
  refine m3_newO hB (C := RX1) (ci := 1) (N := 11) (vs := dfX1) (c1 := 37) kl_X1 cl_X11_77 (by decide +kernel) dX11_init_136 ?_
  refine m3_dup hB dX11_init_139 rfl ?_
  refine m3_to (μ' := wA_X1) (by decide +kernel) ?_
  refine m3_invN hB (c0 := 37) (as := []) dX11_init_140 jn_X11_79 rfl (by decide) rfl (by decide +kernel) (by decide +kernel) (by decide +kernel) (by decide +kernel) K_X1 ?_
  refine m3_putF hB (c0 := 0) (vs := [(3, 0), (0, 0), (4, 0), (0, 0), (5, 0), (6, 0), (7, 0), (0, 0), (8, 0), (9, 0), (10, 0), (17, 0), (26, 0), (27, 0), (34, 0), (1, 0), (1, 0), (1, 0), (1, 0), (1, 0)]) dX11_init_143 fl_X11_80 (fun _ _ _ h => by cases h; rfl) (fun _ => ⟨rfl, rfl⟩) (by decide +kernel) (by decide +kernel) (by decide +kernel) ?_
  refine m3_aload_n hB dX11_init_146 rfl ?_
  refine m3_newO hB (C := RX10) (ci := 10) (N := 9) (vs := dfX10) (c1 := 46) kl_X10 cl_X11_84 (by decide +kernel) dX11_init_147 ?_
  refine m3_dup hB dX11_init_150 rfl ?_
  refine m3_aload_n hB dX11_init_151 rfl ?_
  refine m3_getR hB (c0 := 0) (c1 := 8) (x := 0) (vs := [(3, 0), (0, 0), (4, 0), (0, 0), (5, 0), (6, 0), (7, 0), (0, 0), (8, 0), (9, 0), (10, 0), (17, 0), (26, 0), (27, 0), (34, 0), (39, 0), (1, 0), (1, 0), (1, 0), (1, 0)]) dX11_init_152 fl_X11_39 (by decide +kernel) (by decide +kernel) ?_
  refine m3_aload_n hB dX11_init_155 rfl ?_
  refine m3_getR hB (c0 := 0) (c1 := 15) (x := 0) (vs := [(3, 0), (0, 0), (4, 0), (0, 0), (5, 0), (6, 0), (7, 0), (0, 0), (8, 0), (9, 0), (10, 0), (17, 0), (26, 0), (27, 0), (34, 0), (39, 0), (1, 0), (1, 0), (1, 0), (1, 0)]) dX11_init_156 fl_X11_46 (by decide +kernel) (by decide +kernel) ?_
  refine m3_aload_n hB dX11_init_159 rfl ?_
  refine m3_getR hB (c0 := 0) (c1 := 32) (x := 0) (vs := [(3, 0), (0, 0), (4, 0), (0, 0), (5, 0), (6, 0), (7, 0), (0, 0), (8, 0), (9, 0), (10, 0), (17, 0), (26, 0), (27, 0), (34, 0), (39, 0), (1, 0), (1, 0), (1, 0), (1, 0)]) dX11_init_160 fl_X11_73 (by decide +kernel) (by decide +kernel) ?_
  refine m3_aload_n hB dX11_init_163 rfl ?_
  refine m3_getR hB (c0 := 0) (c1 := 25) (x := 0) (vs := [(3, 0), (0, 0), (4, 0), (0, 0), (5, 0), (6, 0), (7, 0), (0, 0), (8, 0), (9, 0), (10, 0), (17, 0), (26, 0), (27, 0), (34, 0), (39, 0), (1, 0), (1, 0), (1, 0), (1, 0)]) dX11_init_164 fl_X11_64 (by decide +kernel) (by decide +kernel) ?_
  refine m3_to (μ' := wA_X10) (by decide +kernel) ?_
  refine m3_inv hB (c0 := 46) (as := [.ref 8, .ref 15, .ref 32, .ref 25]) dX11_init_167 ji_X11_86 rfl (by decide) rfl (by decide +kernel) (by decide +kernel) (by decide +kernel) (by decide +kernel) K_X10 ?_
  refine m3_putF hB (c0 := 0) (vs := [(3, 0), (0, 0), (4, 0), (0, 0), (5, 0), (6, 0), (7, 0), (0, 0), (8, 0), (9, 0), (10, 0), (17, 0), (26, 0), (27, 0), (34, 0), (39, 0), (1, 0), (1, 0), (1, 0), (1, 0)]) dX11_init_170 fl_X11_89 (fun _ _ _ h => by cases h; rfl) (fun _ => ⟨rfl, rfl⟩) (by decide +kernel) (by decide +kernel) (by decide +kernel) ?_
  refine m3_aload_n hB dX11_init_173 rfl ?_
  refine m3_newO hB (C := RX4) (ci := 4) (N := 15) (vs := dfX4) (c1 := 49) kl_X4 cl_X11_93 (by decide +kernel) dX11_init_174 ?_
  refine m3_dup hB dX11_init_177 rfl ?_
  refine m3_aload_n hB dX11_init_178 rfl ?_
  refine m3_getR hB (c0 := 0) (c1 := 8) (x := 0) (vs := [(3, 0), (0, 0), (4, 0), (0, 0), (5, 0), (6, 0), (7, 0), (0, 0), (8, 0), (9, 0), (10, 0), (17, 0), (26, 0), (27, 0), (34, 0), (39, 0), (48, 0), (1, 0), (1, 0), (1, 0)]) dX11_init_179 fl_X11_39 (by decide +kernel) (by decide +kernel) ?_
  refine m3_aload_n hB dX11_init_182 rfl ?_
  refine m3_getR hB (c0 := 0) (c1 := 15) (x := 0) (vs := [(3, 0), (0, 0), (4, 0), (0, 0), (5, 0), (6, 0), (7, 0), (0, 0), (8, 0), (9, 0), (10, 0), (17, 0), (26, 0), (27, 0), (34, 0), (39, 0), (48, 0), (1, 0), (1, 0), (1, 0)]) dX11_init_183 fl_X11_46 (by decide +kernel) (by decide +kernel) ?_
  refine m3_aload_n hB dX11_init_186 rfl ?_
  refine m3_getR hB (c0 := 0) (c1 := 46) (x := 0) (vs := [(3, 0), (0, 0), (4, 0), (0, 0), (5, 0), (6, 0), (7, 0), (0, 0), (8, 0), (9, 0), (10, 0), (17, 0), (26, 0), (27, 0), (34, 0), (39, 0), (48, 0), (1, 0), (1, 0), (1, 0)]) dX11_init_187 fl_X11_89 (by decide +kernel) (by decide +kernel) ?_
  refine m3_to (μ' := wA_X4) (by decide +kernel) ?_
  refine m3_inv hB (c0 := 49) (as := [.ref 8, .ref 15, .ref 46]) dX11_init_190 ji_X11_95 rfl (by decide) rfl (by decide +kernel) (by decide +kernel) (by decide +kernel) (by decide +kernel) K_X4 ?_
  refine m3_putF hB (c0 := 0) (vs := [(3, 0), (0, 0), (4, 0), (0, 0), (5, 0), (6, 0), (7, 0), (0, 0), (8, 0), (9, 0), (10, 0), (17, 0), (26, 0), (27, 0), (34, 0), (39, 0), (48, 0), (1, 0), (1, 0), (1, 0)]) dX11_init_193 fl_X11_98 (fun _ _ _ h => by cases h; rfl) (fun _ => ⟨rfl, rfl⟩) (by decide +kernel) (by decide +kernel) (by decide +kernel) ?_
  refine m3_aload_n hB dX11_init_196 rfl ?_
  refine m3_newO hB (C := RX9) (ci := 9) (N := 6) (vs := dfX9) (c1 := 85) kl_X9 cl_X11_102 (by decide +kernel) dX11_init_197 ?_
  refine m3_dup hB dX11_init_200 rfl ?_
  refine m3_aload_n hB dX11_init_201 rfl ?_
  refine m3_getR hB (c0 := 0) (c1 := 32) (x := 0) (vs := [(3, 0), (0, 0), (4, 0), (0, 0), (5, 0), (6, 0), (7, 0), (0, 0), (8, 0), (9, 0), (10, 0), (17, 0), (26, 0), (27, 0), (34, 0), (39, 0), (48, 0), (51, 0), (1, 0), (1, 0)]) dX11_init_202 fl_X11_73 (by decide +kernel) (by decide +kernel) ?_
  refine m3_to (μ' := wA_X9) (by decide +kernel) ?_
  refine m3_inv hB (c0 := 85) (as := [.ref 32]) dX11_init_205 ji_X11_104 rfl (by decide) rfl (by decide +kernel) (by decide +kernel) (by decide +kernel) (by decide +kernel) K_X9 ?_
  refine m3_putF hB (c0 := 0) (vs := [(3, 0), (0, 0), (4, 0), (0, 0), (5, 0), (6, 0), (7, 0), (0, 0), (8, 0), (9, 0), (10, 0), (17, 0), (26, 0), (27, 0), (34, 0), (39, 0), (48, 0), (51, 0), (1, 0), (1, 0)]) dX11_init_208 fl_X11_107 (fun _ _ _ h => by cases h; rfl) (fun _ => ⟨rfl, rfl⟩) (by decide +kernel) (by decide +kernel) (by decide +kernel) ?_
  refine m3_aload_n hB dX11_init_211 rfl ?_
  refine m3_newO hB (C := RX5) (ci := 5) (N := 14) (vs := dfX5) (c1 := 160) kl_X5 cl_X11_111 (by decide +kernel) dX11_init_212 ?_
  refine m3_dup hB dX11_init_215 rfl ?_
  refine m3_aload_n hB dX11_init_216 rfl ?_
  refine m3_getR hB (c0 := 0) (c1 := 8) (x := 0) (vs := [(3, 0), (0, 0), (4, 0), (0, 0), (5, 0), (6, 0), (7, 0), (0, 0), (8, 0), (9, 0), (10, 0), (17, 0), (26, 0), (27, 0), (34, 0), (39, 0), (48, 0), (51, 0), (87, 0), (1, 0)]) dX11_init_217 fl_X11_39 (by decide +kernel) (by decide +kernel) ?_
  refine m3_aload_n hB dX11_init_220 rfl ?_
  refine m3_getR hB (c0 := 0) (c1 := 32) (x := 0) (vs := [(3, 0), (0, 0), (4, 0), (0, 0), (5, 0), (6, 0), (7, 0), (0, 0), (8, 0), (9, 0), (10, 0), (17, 0), (26, 0), (27, 0), (34, 0), (39, 0), (48, 0), (51, 0), (87, 0), (1, 0)]) dX11_init_221 fl_X11_73 (by decide +kernel) (by decide +kernel) ?_
  refine m3_to (μ' := wA_X5) (by decide +kernel) ?_
  refine m3_inv hB (c0 := 160) (as := [.ref 8, .ref 32]) dX11_init_224 ji_X11_113 rfl (by decide) rfl (by decide +kernel) (by decide +kernel) (by decide +kernel) (by decide +kernel) K_X5 ?_
  refine m3_putF hB (c0 := 0) (vs := [(3, 0), (0, 0), (4, 0), (0, 0), (5, 0), (6, 0), (7, 0), (0, 0), (8, 0), (9, 0), (10, 0), (17, 0), (26, 0), (27, 0), (34, 0), (39, 0), (48, 0), (51, 0), (87, 0), (1, 0)]) dX11_init_227 fl_X11_116 (fun _ _ _ h => by cases h; rfl) (fun _ => ⟨rfl, rfl⟩) (by decide +kernel) (by decide +kernel) (by decide +kernel) ?_
  refine m3_iconst hB dX11_init_230 (v := 0) (by decide) ?_
  refine m3_istore_n hB dX11_init_231 rfl (ls' := [.ref 0, .int 0]) (by decide) rfl ?_
  refine m3_iload_n hB dX11_init_232 rfl ?_
  refine m3_iconst hB dX11_init_233 (v := 3) (by decide) ?_
  refine m3_icmp_gt hB dX11_init_234 (tgt := 256) (by decide) (fun q => absurd q (by decide)) (fun _ => ?_)
  refine m3_aload_n hB dX11_init_237 rfl ?_
  refine m3_getR hB (c0 := 0) (c1 := 7) (x := 0) (vs := [(3, 0), (0, 0), (4, 0), (0, 0), (5, 0), (6, 0), (7, 0), (0, 0), (8, 0), (9, 0), (10, 0), (17, 0), (26, 0), (27, 0), (34, 0), (39, 0), (48, 0), (51, 0), (87, 0), (162, 0)]) dX11_init_238 fl_X11_32 (by decide +kernel) (by decide +kernel) ?_
  refine m3_iload_n hB dX11_init_241 rfl ?_
  refine m3_newO hB (C := RX3) (ci := 3) (N := 8) (vs := dfX3) (c1 := 165) kl_X3 cl_X11_30 (by decide +kernel) dX11_init_242 ?_
  refine m3_dup hB dX11_init_245 rfl ?_
  refine m3_invN hB (c0 := 165) (as := []) dX11_init_246 jn_X11_120 rfl (by decide) rfl (by decide +kernel) (by decide +kernel) (by decide +kernel) (by decide +kernel) (K_X3 (n := 165) (by decide +kernel) (by decide)) ?_
  refine m3_aast hB (c0 := 7) (c1 := 165) (N := 4) (j := 0) (rs := [(1, 0), (1, 0), (1, 0), (1, 0)]) (vs := [(168, 0), (169, 0), (170, 0), (171, 0), (0, 0), (0, 0), (0, 0), (0, 0)]) dX11_init_249 (by decide +kernel) (by decide +kernel) (by decide) (by unfold vp_in; decide) (by decide) (by decide +kernel) ?_
  refine m3_iinc hB (v := 1) (ls' := [.ref 0, .int 1]) dX11_init_250 rfl (by decide) (by decide) rfl ?_
  refine m3_goto hB dX11_init_253 (tgt := 232) (by decide) ?_
  refine m3_iload_n hB dX11_init_232 rfl ?_
  refine m3_iconst hB dX11_init_233 (v := 3) (by decide) ?_
  refine m3_icmp_gt hB dX11_init_234 (tgt := 256) (by decide) (fun q => absurd q (by decide)) (fun _ => ?_)
  refine m3_aload_n hB dX11_init_237 rfl ?_
  refine m3_getR hB (c0 := 0) (c1 := 7) (x := 0) (vs := [(3, 0), (0, 0), (4, 0), (0, 0), (5, 0), (6, 0), (7, 0), (0, 0), (8, 0), (9, 0), (10, 0), (17, 0), (26, 0), (27, 0), (34, 0), (39, 0), (48, 0), (51, 0), (87, 0), (162, 0)]) dX11_init_238 fl_X11_32 (by decide +kernel) (by decide +kernel) ?_
  refine m3_iload_n hB dX11_init_241 rfl ?_
  refine m3_newO hB (C := RX3) (ci := 3) (N := 8) (vs := dfX3) (c1 := 170) kl_X3 cl_X11_30 (by decide +kernel) dX11_init_242 ?_
  refine m3_dup hB dX11_init_245 rfl ?_
  refine m3_invN hB (c0 := 170) (as := []) dX11_init_246 jn_X11_120 rfl (by decide) rfl (by decide +kernel) (by decide +kernel) (by decide +kernel) (by decide +kernel) (K_X3 (n := 170) (by decide +kernel) (by decide)) ?_
  refine m3_aast hB (c0 := 7) (c1 := 170) (N := 4) (j := 1) (rs := [(167, 0), (1, 0), (1, 0), (1, 0)]) (vs := [(173, 0), (174, 0), (175, 0), (176, 0), (0, 0), (0, 0), (0, 0), (0, 0)]) dX11_init_249 (by decide +kernel) (by decide +kernel) (by decide) (by unfold vp_in; decide) (by decide) (by decide +kernel) ?_
  refine m3_iinc hB (v := 2) (ls' := [.ref 0, .int 2]) dX11_init_250 rfl (by decide) (by decide) rfl ?_
  refine m3_goto hB dX11_init_253 (tgt := 232) (by decide) ?_
  refine m3_iload_n hB dX11_init_232 rfl ?_
  refine m3_iconst hB dX11_init_233 (v := 3) (by decide) ?_
  refine m3_icmp_gt hB dX11_init_234 (tgt := 256) (by decide) (fun q => absurd q (by decide)) (fun _ => ?_)
  refine m3_aload_n hB dX11_init_237 rfl ?_
  refine m3_getR hB (c0 := 0) (c1 := 7) (x := 0) (vs := [(3, 0), (0, 0), (4, 0), (0, 0), (5, 0), (6, 0), (7, 0), (0, 0), (8, 0), (9, 0), (10, 0), (17, 0), (26, 0), (27, 0), (34, 0), (39, 0), (48, 0), (51, 0), (87, 0), (162, 0)]) dX11_init_238 fl_X11_32 (by decide +kernel) (by decide +kernel) ?_
  refine m3_iload_n hB dX11_init_241 rfl ?_
  refine m3_newO hB (C := RX3) (ci := 3) (N := 8) (vs := dfX3) (c1 := 175) kl_X3 cl_X11_30 (by decide +kernel) dX11_init_242 ?_
  refine m3_dup hB dX11_init_245 rfl ?_
  refine m3_invN hB (c0 := 175) (as := []) dX11_init_246 jn_X11_120 rfl (by decide) rfl (by decide +kernel) (by decide +kernel) (by decide +kernel) (by decide +kernel) (K_X3 (n := 175) (by decide +kernel) (by decide)) ?_
  refine m3_aast hB (c0 := 7) (c1 := 175) (N := 4) (j := 2) (rs := [(167, 0), (172, 0), (1, 0), (1, 0)]) (vs := [(178, 0), (179, 0), (180, 0), (181, 0), (0, 0), (0, 0), (0, 0), (0, 0)]) dX11_init_249 (by decide +kernel) (by decide +kernel) (by decide) (by unfold vp_in; decide) (by decide) (by decide +kernel) ?_
  refine m3_iinc hB (v := 3) (ls' := [.ref 0, .int 3]) dX11_init_250 rfl (by decide) (by decide) rfl ?_
  refine m3_goto hB dX11_init_253 (tgt := 232) (by decide) ?_
  refine m3_iload_n hB dX11_init_232 rfl ?_
  refine m3_iconst hB dX11_init_233 (v := 3) (by decide) ?_
  refine m3_icmp_gt hB dX11_init_234 (tgt := 256) (by decide) (fun q => absurd q (by decide)) (fun _ => ?_)
  refine m3_aload_n hB dX11_init_237 rfl ?_
  refine m3_getR hB (c0 := 0) (c1 := 7) (x := 0) (vs := [(3, 0), (0, 0), (4, 0), (0, 0), (5, 0), (6, 0), (7, 0), (0, 0), (8, 0), (9, 0), (10, 0), (17, 0), (26, 0), (27, 0), (34, 0), (39, 0), (48, 0), (51, 0), (87, 0), (162, 0)]) dX11_init_238 fl_X11_32 (by decide +kernel) (by decide +kernel) ?_
  refine m3_iload_n hB dX11_init_241 rfl ?_
  refine m3_newO hB (C := RX3) (ci := 3) (N := 8) (vs := dfX3) (c1 := 180) kl_X3 cl_X11_30 (by decide +kernel) dX11_init_242 ?_
  refine m3_dup hB dX11_init_245 rfl ?_
  refine m3_invN hB (c0 := 180) (as := []) dX11_init_246 jn_X11_120 rfl (by decide) rfl (by decide +kernel) (by decide +kernel) (by decide +kernel) (by decide +kernel) (K_X3 (n := 180) (by decide +kernel) (by decide)) ?_
  refine m3_aast hB (c0 := 7) (c1 := 180) (N := 4) (j := 3) (rs := [(167, 0), (172, 0), (177, 0), (1, 0)]) (vs := [(183, 0), (184, 0), (185, 0), (186, 0), (0, 0), (0, 0), (0, 0), (0, 0)]) dX11_init_249 (by decide +kernel) (by decide +kernel) (by decide) (by unfold vp_in; decide) (by decide) (by decide +kernel) ?_
  refine m3_iinc hB (v := 4) (ls' := [.ref 0, .int 4]) dX11_init_250 rfl (by decide) (by decide) rfl ?_
  refine m3_goto hB dX11_init_253 (tgt := 232) (by decide) ?_
  refine m3_iload_n hB dX11_init_232 rfl ?_
  refine m3_iconst hB dX11_init_233 (v := 3) (by decide) ?_
  refine m3_icmp_gt hB dX11_init_234 (tgt := 256) (by decide) (fun _ => ?_) (fun q => absurd (by decide) q)
  refine m3_to (μ' := wB_X11) (by decide +kernel) ?_
  exact m3_vret h dX11_init_256
