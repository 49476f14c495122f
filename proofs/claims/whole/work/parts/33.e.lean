theorem bo_150_14_3e81ce : ∀ e ∈ ([(14, .aload_n 0, 15)] : List (Nat × Instr × Nat)), il_150.lookup e.1 = some e.2 := by decide +kernel
theorem li_150_15 : il_150.lookup 15 = some (.getfield 135, 18) := by decide +kernel
theorem bo_150_18_5f9e6e : ∀ e ∈ ([(18, .iconst 4, 19), (19, .iload_n 1, 20), (20, .imul, 21), (21, .aload_n 0, 22)] : List (Nat × Instr × Nat)), il_150.lookup e.1 = some e.2 := by decide +kernel
theorem li_150_22 : il_150.lookup 22 = some (.getfield 129, 25) := by decide +kernel
theorem bo_150_25_1858f6 : ∀ e ∈ ([(25, .iload_n 1, 26)] : List (Nat × Instr × Nat)), il_150.lookup e.1 = some e.2 := by decide +kernel
theorem li_150_26 : il_150.lookup 26 = some (.iaload, 27) := by decide +kernel
theorem bo_150_27_fe3fdb : ∀ e ∈ ([(27, .iadd, 28), (28, .iconst (-1), 29)] : List (Nat × Instr × Nat)), il_150.lookup e.1 = some e.2 := by decide +kernel
theorem li_150_29 : il_150.lookup 29 = some (.iastore, 30) := by decide +kernel
theorem bo_150_30_0b4e4a : ∀ e ∈ ([(30, .aload_n 0, 31)] : List (Nat × Instr × Nat)), il_150.lookup e.1 = some e.2 := by decide +kernel
theorem li_150_31 : il_150.lookup 31 = some (.getfield 129, 34) := by decide +kernel
theorem bo_150_34_812988 : ∀ e ∈ ([(34, .iload_n 1, 35), (35, .dup2, 36)] : List (Nat × Instr × Nat)), il_150.lookup e.1 = some e.2 := by decide +kernel
theorem li_150_36 : il_150.lookup 36 = some (.iaload, 37) := by decide +kernel
theorem bo_150_37_b7e9cc : ∀ e ∈ ([(37, .iconst 1, 38), (38, .iadd, 39)] : List (Nat × Instr × Nat)), il_150.lookup e.1 = some e.2 := by decide +kernel
theorem li_150_39 : il_150.lookup 39 = some (.iastore, 40) := by decide +kernel
theorem li_150_40 : il_150.lookup 40 = some (.return_, 41) := by decide +kernel
theorem bo_150_0_8d5162 : ∀ e ∈ ([(0, .aload_n 0, 1)] : List (Nat × Instr × Nat)), il_150.lookup e.1 = some e.2 := by decide +kernel
theorem li_150_1 : il_150.lookup 1 = some (.getfield 114, 4) := by decide +kernel
theorem bo_150_4_e962e2 : ∀ e ∈ ([(4, .iload_n 1, 5)] : List (Nat × Instr × Nat)), il_150.lookup e.1 = some e.2 := by decide +kernel
theorem li_150_5 : il_150.lookup 5 = some (.iaload, 6) := by decide +kernel
theorem li_150_6 : il_150.lookup 6 = some (.ifCond .le 8, 9) := by decide +kernel
theorem bo_150_9_16efa2 : ∀ e ∈ ([(9, .aload_n 0, 10), (10, .iload_n 1, 11)] : List (Nat × Instr × Nat)), il_150.lookup e.1 = some e.2 := by decide +kernel
theorem li_150_11 : il_150.lookup 11 = some (.invokevirtual 278, 14) := by decide +kernel
theorem bo_151_229_9c43bd : ∀ e ∈ ([(229, .iload 4, 231), (231, .aload_n 0, 232)] : List (Nat × Instr × Nat)), il_151.lookup e.1 = some e.2 := by decide +kernel
theorem li_151_232 : il_151.lookup 232 = some (.getfield 22, 235) := by decide +kernel
theorem bo_151_235_3c08aa : ∀ e ∈ ([(235, .iload_n 1, 236), (236, .iconst 1, 237), (237, .iadd, 238)] : List (Nat × Instr × Nat)), il_151.lookup e.1 = some e.2 := by decide +kernel
theorem li_151_238 : il_151.lookup 238 = some (.iaload, 239) := by decide +kernel
theorem li_151_239 : il_151.lookup 239 = some (.if_icmp .ge 20, 242) := by decide +kernel
theorem bo_151_259_516b23 : ∀ e ∈ ([(259, .aload_n 0, 260)] : List (Nat × Instr × Nat)), il_151.lookup e.1 = some e.2 := by decide +kernel
theorem li_151_260 : il_151.lookup 260 = some (.getfield 111, 263) := by decide +kernel
theorem bo_151_263_e508f9 : ∀ e ∈ ([(263, .iload_n 3, 264), (264, .iconst 0, 265)] : List (Nat × Instr × Nat)), il_151.lookup e.1 = some e.2 := by decide +kernel
theorem li_151_265 : il_151.lookup 265 = some (.bastore, 266) := by decide +kernel
theorem bo_151_266_437b86 : ∀ e ∈ ([(266, .iconst 1, 267)] : List (Nat × Instr × Nat)), il_151.lookup e.1 = some e.2 := by decide +kernel
theorem li_151_267 : il_151.lookup 267 = some (.ireturn, 268) := by decide +kernel
theorem bo_151_242_53a6fd : ∀ e ∈ ([(242, .aload_n 0, 243), (243, .iload_n 1, 244), (244, .iload_n 2, 245), (245, .iload 4, 247)] : List (Nat × Instr × Nat)), il_151.lookup e.1 = some e.2 := by decide +kernel
theorem li_151_247 : il_151.lookup 247 = some (.invokestatic 324, 250) := by decide +kernel
theorem li_151_250 : il_151.lookup 250 = some (.invokevirtual 357, 253) := by decide +kernel
theorem bo_151_253_30ba61 : ∀ e ∈ ([(253, .iinc 4 1, 256), (256, .goto (-27), 259)] : List (Nat × Instr × Nat)), il_151.lookup e.1 = some e.2 := by decide +kernel
theorem bo_151_112_a136ae : ∀ e ∈ ([(112, .iload 6, 114), (114, .aload_n 0, 115)] : List (Nat × Instr × Nat)), il_151.lookup e.1 = some e.2 := by decide +kernel
theorem li_151_115 : il_151.lookup 115 = some (.getfield 93, 118) := by decide +kernel
theorem bo_151_118_c412ec : ∀ e ∈ ([(118, .iload_n 3, 119)] : List (Nat × Instr × Nat)), il_151.lookup e.1 = some e.2 := by decide +kernel
theorem li_151_119 : il_151.lookup 119 = some (.iaload, 120) := by decide +kernel
theorem li_151_120 : il_151.lookup 120 = some (.if_icmp .ge 81, 123) := by decide +kernel
theorem bo_151_201_0c6ae6 : ∀ e ∈ ([(201, .goto (-195), 204)] : List (Nat × Instr × Nat)), il_151.lookup e.1 = some e.2 := by decide +kernel
theorem bo_151_123_4951b9 : ∀ e ∈ ([(123, .aload_n 0, 124)] : List (Nat × Instr × Nat)), il_151.lookup e.1 = some e.2 := by decide +kernel
theorem li_151_124 : il_151.lookup 124 = some (.getfield 96, 127) := by decide +kernel
theorem bo_151_127_dbb57f : ∀ e ∈ ([(127, .iconst 3, 128), (128, .iload_n 3, 129), (129, .imul, 130), (130, .iload 6, 132), (132, .iadd, 133), (133, .aload_n 0, 134)] : List (Nat × Instr × Nat)), il_151.lookup e.1 = some e.2 := by decide +kernel
theorem li_151_134 : il_151.lookup 134 = some (.getfield 96, 137) := by decide +kernel
theorem bo_151_137_487cd7 : ∀ e ∈ ([(137, .iconst 3, 138), (138, .iload_n 3, 139), (139, .imul, 140), (140, .iload 6, 142), (142, .iadd, 143), (143, .iconst 1, 144), (144, .iadd, 145)] : List (Nat × Instr × Nat)), il_151.lookup e.1 = some e.2 := by decide +kernel
theorem li_151_145 : il_151.lookup 145 = some (.iaload, 146) := by decide +kernel
theorem li_151_146 : il_151.lookup 146 = some (.iastore, 147) := by decide +kernel
theorem bo_151_147_3abd7c : ∀ e ∈ ([(147, .aload_n 0, 148)] : List (Nat × Instr × Nat)), il_151.lookup e.1 = some e.2 := by decide +kernel
theorem li_151_148 : il_151.lookup 148 = some (.getfield 99, 151) := by decide +kernel
theorem bo_151_151_86ab49 : ∀ e ∈ ([(151, .iconst 3, 152), (152, .iload_n 3, 153), (153, .imul, 154), (154, .iload 6, 156), (156, .iadd, 157), (157, .aload_n 0, 158)] : List (Nat × Instr × Nat)), il_151.lookup e.1 = some e.2 := by decide +kernel
theorem li_151_158 : il_151.lookup 158 = some (.getfield 99, 161) := by decide +kernel
theorem bo_151_161_13a8c9 : ∀ e ∈ ([(161, .iconst 3, 162), (162, .iload_n 3, 163), (163, .imul, 164), (164, .iload 6, 166), (166, .iadd, 167), (167, .iconst 1, 168), (168, .iadd, 169)] : List (Nat × Instr × Nat)), il_151.lookup e.1 = some e.2 := by decide +kernel
theorem li_151_169 : il_151.lookup 169 = some (.iaload, 170) := by decide +kernel
theorem li_151_170 : il_151.lookup 170 = some (.iastore, 171) := by decide +kernel
theorem bo_151_171_bd2389 : ∀ e ∈ ([(171, .aload_n 0, 172)] : List (Nat × Instr × Nat)), il_151.lookup e.1 = some e.2 := by decide +kernel
theorem li_151_172 : il_151.lookup 172 = some (.getfield 102, 175) := by decide +kernel
theorem bo_151_175_2cc2fb : ∀ e ∈ ([(175, .iconst 3, 176), (176, .iload_n 3, 177), (177, .imul, 178), (178, .iload 6, 180), (180, .iadd, 181), (181, .aload_n 0, 182)] : List (Nat × Instr × Nat)), il_151.lookup e.1 = some e.2 := by decide +kernel
theorem li_151_182 : il_151.lookup 182 = some (.getfield 102, 185) := by decide +kernel
theorem bo_151_185_b0b0ea : ∀ e ∈ ([(185, .iconst 3, 186), (186, .iload_n 3, 187), (187, .imul, 188), (188, .iload 6, 190), (190, .iadd, 191), (191, .iconst 1, 192), (192, .iadd, 193)] : List (Nat × Instr × Nat)), il_151.lookup e.1 = some e.2 := by decide +kernel
theorem li_151_193 : il_151.lookup 193 = some (.iaload, 194) := by decide +kernel
theorem li_151_194 : il_151.lookup 194 = some (.iastore, 195) := by decide +kernel
theorem bo_151_195_d64d87 : ∀ e ∈ ([(195, .iinc 6 1, 198), (198, .goto (-86), 201)] : List (Nat × Instr × Nat)), il_151.lookup e.1 = some e.2 := by decide +kernel
theorem bo_151_97_df0ce8 : ∀ e ∈ ([(97, .iadd, 98)] : List (Nat × Instr × Nat)), il_151.lookup e.1 = some e.2 := by decide +kernel
theorem li_151_98 : il_151.lookup 98 = some (.iastore, 99) := by decide +kernel
theorem bo_151_99_e6cd5c : ∀ e ∈ ([(99, .aload_n 0, 100)] : List (Nat × Instr × Nat)), il_151.lookup e.1 = some e.2 := by decide +kernel
theorem li_151_100 : il_151.lookup 100 = some (.getfield 93, 103) := by decide +kernel
theorem bo_151_103_b58a7c : ∀ e ∈ ([(103, .iload_n 3, 104), (104, .dup2, 105)] : List (Nat × Instr × Nat)), il_151.lookup e.1 = some e.2 := by decide +kernel
theorem li_151_105 : il_151.lookup 105 = some (.iaload, 106) := by decide +kernel
theorem bo_151_106_9c4b38 : ∀ e ∈ ([(106, .iconst 1, 107), (107, .isub, 108)] : List (Nat × Instr × Nat)), il_151.lookup e.1 = some e.2 := by decide +kernel
theorem li_151_108 : il_151.lookup 108 = some (.iastore, 109) := by decide +kernel
theorem bo_151_109_644814 : ∀ e ∈ ([(109, .iconst 0, 110), (110, .istore 6, 112)] : List (Nat × Instr × Nat)), il_151.lookup e.1 = some e.2 := by decide +kernel
theorem bo_151_6_907e54 : ∀ e ∈ ([(6, .aload_n 0, 7)] : List (Nat × Instr × Nat)), il_151.lookup e.1 = some e.2 := by decide +kernel
theorem li_151_7 : il_151.lookup 7 = some (.getfield 93, 10) := by decide +kernel
theorem bo_151_10_2a30f5 : ∀ e ∈ ([(10, .iload_n 3, 11)] : List (Nat × Instr × Nat)), il_151.lookup e.1 = some e.2 := by decide +kernel
theorem li_151_11 : il_151.lookup 11 = some (.iaload, 12) := by decide +kernel
theorem li_151_12 : il_151.lookup 12 = some (.ifCond .le 192, 15) := by decide +kernel
theorem bo_151_204_d3eea0 : ∀ e ∈ ([(204, .aload_n 0, 205)] : List (Nat × Instr × Nat)), il_151.lookup e.1 = some e.2 := by decide +kernel
theorem li_151_205 : il_151.lookup 205 = some (.getfield 111, 208) := by decide +kernel
theorem bo_151_208_a74105 : ∀ e ∈ ([(208, .iload_n 3, 209)] : List (Nat × Instr × Nat)), il_151.lookup e.1 = some e.2 := by decide +kernel
theorem li_151_209 : il_151.lookup 209 = some (.baload, 210) := by decide +kernel
theorem li_151_210 : il_151.lookup 210 = some (.ifCond .ne 5, 213) := by decide +kernel
theorem bo_151_215_f907d1 : ∀ e ∈ ([(215, .aload_n 0, 216), (216, .iload_n 1, 217), (217, .iload_n 2, 218)] : List (Nat × Instr × Nat)), il_151.lookup e.1 = some e.2 := by decide +kernel
theorem li_151_218 : il_151.lookup 218 = some (.invokevirtual 354, 221) := by decide +kernel
theorem li_151_221 : il_151.lookup 221 = some (.ifCond .lt 5, 224) := by decide +kernel
theorem bo_151_226_13e50e : ∀ e ∈ ([(226, .iconst 0, 227), (227, .istore 4, 229)] : List (Nat × Instr × Nat)), il_151.lookup e.1 = some e.2 := by decide +kernel
theorem bo_151_224_65e609 : ∀ e ∈ ([(224, .iconst 0, 225)] : List (Nat × Instr × Nat)), il_151.lookup e.1 = some e.2 := by decide +kernel
theorem li_151_225 : il_151.lookup 225 = some (.ireturn, 226) := by decide +kernel
theorem bo_151_213_74a2fb : ∀ e ∈ ([(213, .iconst 1, 214)] : List (Nat × Instr × Nat)), il_151.lookup e.1 = some e.2 := by decide +kernel
theorem li_151_214 : il_151.lookup 214 = some (.ireturn, 215) := by decide +kernel
theorem bo_151_15_be4250 : ∀ e ∈ ([(15, .aload_n 0, 16)] : List (Nat × Instr × Nat)), il_151.lookup e.1 = some e.2 := by decide +kernel
theorem li_151_16 : il_151.lookup 16 = some (.getfield 96, 19) := by decide +kernel
theorem bo_151_19_7f125f : ∀ e ∈ ([(19, .iconst 3, 20), (20, .iload_n 3, 21), (21, .imul, 22)] : List (Nat × Instr × Nat)), il_151.lookup e.1 = some e.2 := by decide +kernel
theorem li_151_22 : il_151.lookup 22 = some (.iaload, 23) := by decide +kernel
theorem bo_151_23_ab2e2f : ∀ e ∈ ([(23, .istore 4, 25), (25, .iload_n 1, 26), (26, .iload_n 2, 27), (27, .aload_n 0, 28), (28, .iload_n 1, 29), (29, .iload_n 2, 30), (30, .iload 4, 32)] : List (Nat × Instr × Nat)), il_151.lookup e.1 = some e.2 := by decide +kernel
theorem li_151_32 : il_151.lookup 32 = some (.invokevirtual 344, 35) := by decide +kernel
theorem li_151_35 : il_151.lookup 35 = some (.invokestatic 324, 38) := by decide +kernel
theorem bo_151_38_005f59 : ∀ e ∈ ([(38, .istore 5, 40), (40, .aload_n 0, 41), (41, .iload 5, 43)] : List (Nat × Instr × Nat)), il_151.lookup e.1 = some e.2 := by decide +kernel
theorem li_151_43 : il_151.lookup 43 = some (.invokevirtual 347, 46) := by decide +kernel
theorem li_151_46 : il_151.lookup 46 = some (.ifCond .ne 5, 49) := by decide +kernel
theorem bo_151_51_b455f5 : ∀ e ∈ ([(51, .aload_n 0, 52), (52, .iload 5, 54), (54, .iload 4, 56), (56, .aload_n 0, 57)] : List (Nat × Instr × Nat)), il_151.lookup e.1 = some e.2 := by decide +kernel
theorem li_151_57 : il_151.lookup 57 = some (.getfield 99, 60) := by decide +kernel
theorem bo_151_60_fecdda : ∀ e ∈ ([(60, .iconst 3, 61), (61, .iload_n 3, 62), (62, .imul, 63)] : List (Nat × Instr × Nat)), il_151.lookup e.1 = some e.2 := by decide +kernel
theorem li_151_63 : il_151.lookup 63 = some (.iaload, 64) := by decide +kernel
theorem bo_151_64_446f01 : ∀ e ∈ ([(64, .aload_n 0, 65)] : List (Nat × Instr × Nat)), il_151.lookup e.1 = some e.2 := by decide +kernel
theorem li_151_65 : il_151.lookup 65 = some (.getfield 102, 68) := by decide +kernel
theorem bo_151_68_bd19fc : ∀ e ∈ ([(68, .iconst 3, 69), (69, .iload_n 3, 70), (70, .imul, 71)] : List (Nat × Instr × Nat)), il_151.lookup e.1 = some e.2 := by decide +kernel
theorem li_151_71 : il_151.lookup 71 = some (.iaload, 72) := by decide +kernel
theorem li_151_72 : il_151.lookup 72 = some (.invokevirtual 350, 75) := by decide +kernel
theorem bo_151_75_1f1f88 : ∀ e ∈ ([(75, .aload_n 0, 76)] : List (Nat × Instr × Nat)), il_151.lookup e.1 = some e.2 := by decide +kernel
theorem li_151_76 : il_151.lookup 76 = some (.getfield 84, 79) := by decide +kernel
theorem bo_151_79_5b2908 : ∀ e ∈ ([(79, .iload_n 3, 80), (80, .dup2, 81)] : List (Nat × Instr × Nat)), il_151.lookup e.1 = some e.2 := by decide +kernel
theorem li_151_81 : il_151.lookup 81 = some (.iaload, 82) := by decide +kernel
theorem bo_151_82_c296f2 : ∀ e ∈ ([(82, .aload_n 0, 83), (83, .iload_n 1, 84), (84, .iconst 1, 85), (85, .iadd, 86)] : List (Nat × Instr × Nat)), il_151.lookup e.1 = some e.2 := by decide +kernel
theorem li_151_86 : il_151.lookup 86 = some (.invokevirtual 281, 89) := by decide +kernel
theorem li_151_89 : il_151.lookup 89 = some (.ifCond .eq 7, 92) := by decide +kernel
theorem bo_151_96_2375ef : ∀ e ∈ ([(96, .iconst 1, 97)] : List (Nat × Instr × Nat)), il_151.lookup e.1 = some e.2 := by decide +kernel
theorem bo_151_92_f850a5 : ∀ e ∈ ([(92, .iconst 0, 93), (93, .goto 4, 96)] : List (Nat × Instr × Nat)), il_151.lookup e.1 = some e.2 := by decide +kernel
theorem bo_151_49_e052b7 : ∀ e ∈ ([(49, .iconst 0, 50)] : List (Nat × Instr × Nat)), il_151.lookup e.1 = some e.2 := by decide +kernel
theorem li_151_50 : il_151.lookup 50 = some (.ireturn, 51) := by decide +kernel
theorem bo_151_0_264884 : ∀ e ∈ ([(0, .iload_n 1, 1), (1, .iload_n 2, 2)] : List (Nat × Instr × Nat)), il_151.lookup e.1 = some e.2 := by decide +kernel
theorem li_151_2 : il_151.lookup 2 = some (.invokestatic 288, 5) := by decide +kernel
theorem bo_151_5_7b98d2 : ∀ e ∈ ([(5, .istore_n 3, 6)] : List (Nat × Instr × Nat)), il_151.lookup e.1 = some e.2 := by decide +kernel
theorem bo_152_0_264884 : ∀ e ∈ ([(0, .iload_n 1, 1), (1, .iload_n 2, 2)] : List (Nat × Instr × Nat)), il_152.lookup e.1 = some e.2 := by decide +kernel
theorem li_152_2 : il_152.lookup 2 = some (.invokestatic 288, 5) := by decide +kernel
theorem bo_152_5_b1d84f : ∀ e ∈ ([(5, .istore 6, 7), (7, .aload_n 0, 8)] : List (Nat × Instr × Nat)), il_152.lookup e.1 = some e.2 := by decide +kernel
theorem li_152_8 : il_152.lookup 8 = some (.getfield 96, 11) := by decide +kernel
theorem bo_152_11_daf963 : ∀ e ∈ ([(11, .iconst 3, 12), (12, .iload 6, 14), (14, .imul, 15), (15, .aload_n 0, 16)] : List (Nat × Instr × Nat)), il_152.lookup e.1 = some e.2 := by decide +kernel
theorem li_152_16 : il_152.lookup 16 = some (.getfield 93, 19) := by decide +kernel
theorem bo_152_19_1a8444 : ∀ e ∈ ([(19, .iload 6, 21)] : List (Nat × Instr × Nat)), il_152.lookup e.1 = some e.2 := by decide +kernel
theorem li_152_21 : il_152.lookup 21 = some (.iaload, 22) := by decide +kernel
theorem bo_152_22_13b32e : ∀ e ∈ ([(22, .iadd, 23), (23, .iload_n 3, 24)] : List (Nat × Instr × Nat)), il_152.lookup e.1 = some e.2 := by decide +kernel
theorem li_152_24 : il_152.lookup 24 = some (.iastore, 25) := by decide +kernel
theorem bo_152_25_1858f6 : ∀ e ∈ ([(25, .aload_n 0, 26)] : List (Nat × Instr × Nat)), il_152.lookup e.1 = some e.2 := by decide +kernel
theorem li_152_26 : il_152.lookup 26 = some (.getfield 99, 29) := by decide +kernel
theorem bo_152_29_65361b : ∀ e ∈ ([(29, .iconst 3, 30), (30, .iload 6, 32), (32, .imul, 33), (33, .aload_n 0, 34)] : List (Nat × Instr × Nat)), il_152.lookup e.1 = some e.2 := by decide +kernel
theorem li_152_34 : il_152.lookup 34 = some (.getfield 93, 37) := by decide +kernel
theorem bo_152_37_a21c9f : ∀ e ∈ ([(37, .iload 6, 39)] : List (Nat × Instr × Nat)), il_152.lookup e.1 = some e.2 := by decide +kernel
theorem li_152_39 : il_152.lookup 39 = some (.iaload, 40) := by decide +kernel
theorem bo_152_40_20557d : ∀ e ∈ ([(40, .iadd, 41), (41, .iload 4, 43)] : List (Nat × Instr × Nat)), il_152.lookup e.1 = some e.2 := by decide +kernel
theorem li_152_43 : il_152.lookup 43 = some (.iastore, 44) := by decide +kernel
theorem bo_152_44_56c0aa : ∀ e ∈ ([(44, .aload_n 0, 45)] : List (Nat × Instr × Nat)), il_152.lookup e.1 = some e.2 := by decide +kernel
theorem li_152_45 : il_152.lookup 45 = some (.getfield 102, 48) := by decide +kernel
theorem bo_152_48_a4360b : ∀ e ∈ ([(48, .iconst 3, 49), (49, .iload 6, 51), (51, .imul, 52), (52, .aload_n 0, 53)] : List (Nat × Instr × Nat)), il_152.lookup e.1 = some e.2 := by decide +kernel
theorem li_152_53 : il_152.lookup 53 = some (.getfield 93, 56) := by decide +kernel
theorem bo_152_56_350148 : ∀ e ∈ ([(56, .iload 6, 58)] : List (Nat × Instr × Nat)), il_152.lookup e.1 = some e.2 := by decide +kernel
theorem li_152_58 : il_152.lookup 58 = some (.iaload, 59) := by decide +kernel
theorem bo_152_59_d0b94e : ∀ e ∈ ([(59, .iadd, 60), (60, .iload 5, 62)] : List (Nat × Instr × Nat)), il_152.lookup e.1 = some e.2 := by decide +kernel
theorem li_152_62 : il_152.lookup 62 = some (.iastore, 63) := by decide +kernel
theorem bo_152_63_e22c52 : ∀ e ∈ ([(63, .aload_n 0, 64)] : List (Nat × Instr × Nat)), il_152.lookup e.1 = some e.2 := by decide +kernel
theorem li_152_64 : il_152.lookup 64 = some (.getfield 93, 67) := by decide +kernel
theorem bo_152_67_390b07 : ∀ e ∈ ([(67, .iload 6, 69), (69, .dup2, 70)] : List (Nat × Instr × Nat)), il_152.lookup e.1 = some e.2 := by decide +kernel
theorem li_152_70 : il_152.lookup 70 = some (.iaload, 71) := by decide +kernel
theorem bo_152_71_0bf829 : ∀ e ∈ ([(71, .iconst 1, 72), (72, .iadd, 73)] : List (Nat × Instr × Nat)), il_152.lookup e.1 = some e.2 := by decide +kernel
theorem li_152_73 : il_152.lookup 73 = some (.iastore, 74) := by decide +kernel
theorem bo_152_74_ac6591 : ∀ e ∈ ([(74, .aload_n 0, 75)] : List (Nat × Instr × Nat)), il_152.lookup e.1 = some e.2 := by decide +kernel
theorem li_152_75 : il_152.lookup 75 = some (.getfield 47, 78) := by decide +kernel
theorem bo_152_78_32a02f : ∀ e ∈ ([(78, .iload_n 1, 79), (79, .dup2, 80)] : List (Nat × Instr × Nat)), il_152.lookup e.1 = some e.2 := by decide +kernel
theorem li_152_80 : il_152.lookup 80 = some (.iaload, 81) := by decide +kernel
theorem bo_152_81_747218 : ∀ e ∈ ([(81, .iconst 1, 82), (82, .iadd, 83)] : List (Nat × Instr × Nat)), il_152.lookup e.1 = some e.2 := by decide +kernel
theorem li_152_83 : il_152.lookup 83 = some (.iastore, 84) := by decide +kernel
theorem li_152_84 : il_152.lookup 84 = some (.return_, 85) := by decide +kernel
theorem bo_153_76_9beeb3 : ∀ e ∈ ([(76, .iinc 4 1, 79), (79, .goto (-70), 82)] : List (Nat × Instr × Nat)), il_153.lookup e.1 = some e.2 := by decide +kernel
theorem bo_153_9_f9a062 : ∀ e ∈ ([(9, .iload 4, 11), (11, .aload_n 0, 12)] : List (Nat × Instr × Nat)), il_153.lookup e.1 = some e.2 := by decide +kernel
theorem li_153_12 : il_153.lookup 12 = some (.getfield 22, 15) := by decide +kernel
theorem bo_153_15_f418fa : ∀ e ∈ ([(15, .iload_n 1, 16), (16, .iconst 1, 17), (17, .isub, 18)] : List (Nat × Instr × Nat)), il_153.lookup e.1 = some e.2 := by decide +kernel
theorem li_153_18 : il_153.lookup 18 = some (.iaload, 19) := by decide +kernel
theorem li_153_19 : il_153.lookup 19 = some (.if_icmp .ge 63, 22) := by decide +kernel
theorem bo_153_82_d3719d : ∀ e ∈ ([(82, .iconst (-1), 83)] : List (Nat × Instr × Nat)), il_153.lookup e.1 = some e.2 := by decide +kernel
theorem li_153_83 : il_153.lookup 83 = some (.ireturn, 84) := by decide +kernel
theorem bo_153_22_60ac31 : ∀ e ∈ ([(22, .aload_n 0, 23)] : List (Nat × Instr × Nat)), il_153.lookup e.1 = some e.2 := by decide +kernel
theorem li_153_23 : il_153.lookup 23 = some (.getfield 108, 26) := by decide +kernel
theorem bo_153_26_bd3b31 : ∀ e ∈ ([(26, .iload_n 3, 27)] : List (Nat × Instr × Nat)), il_153.lookup e.1 = some e.2 := by decide +kernel
theorem li_153_27 : il_153.lookup 27 = some (.iaload, 28) := by decide +kernel
theorem bo_153_28_5b3148 : ∀ e ∈ ([(28, .iload 4, 30), (30, .iadd, 31), (31, .aload_n 0, 32)] : List (Nat × Instr × Nat)), il_153.lookup e.1 = some e.2 := by decide +kernel
theorem li_153_32 : il_153.lookup 32 = some (.getfield 22, 35) := by decide +kernel
theorem bo_153_35_0ac55d : ∀ e ∈ ([(35, .iload_n 1, 36), (36, .iconst 1, 37), (37, .isub, 38)] : List (Nat × Instr × Nat)), il_153.lookup e.1 = some e.2 := by decide +kernel
theorem li_153_38 : il_153.lookup 38 = some (.iaload, 39) := by decide +kernel
theorem li_153_39 : il_153.lookup 39 = some (.irem, 40) := by decide +kernel
theorem bo_153_40_ddfaee : ∀ e ∈ ([(40, .istore 5, 42), (42, .aload_n 0, 43)] : List (Nat × Instr × Nat)), il_153.lookup e.1 = some e.2 := by decide +kernel
theorem li_153_43 : il_153.lookup 43 = some (.getfield 105, 46) := by decide +kernel
theorem bo_153_46_4b02d4 : ∀ e ∈ ([(46, .iload_n 3, 47)] : List (Nat × Instr × Nat)), il_153.lookup e.1 = some e.2 := by decide +kernel
theorem li_153_47 : il_153.lookup 47 = some (.iaload, 48) := by decide +kernel
theorem bo_153_48_a26bed : ∀ e ∈ ([(48, .iload 5, 50), (50, .ishr, 51), (51, .iconst 1, 52), (52, .iand, 53)] : List (Nat × Instr × Nat)), il_153.lookup e.1 = some e.2 := by decide +kernel
theorem li_153_53 : il_153.lookup 53 = some (.ifCond .ne 23, 56) := by decide +kernel
theorem bo_153_56_350148 : ∀ e ∈ ([(56, .aload_n 0, 57)] : List (Nat × Instr × Nat)), il_153.lookup e.1 = some e.2 := by decide +kernel
theorem li_153_57 : il_153.lookup 57 = some (.getfield 129, 60) := by decide +kernel
theorem bo_153_60_dfdd99 : ∀ e ∈ ([(60, .iload_n 1, 61), (61, .iconst 1, 62), (62, .isub, 63), (63, .iload 5, 65), (65, .iload_n 2, 66)] : List (Nat × Instr × Nat)), il_153.lookup e.1 = some e.2 := by decide +kernel
theorem li_153_66 : il_153.lookup 66 = some (.invokestatic 324, 69) := by decide +kernel
theorem li_153_69 : il_153.lookup 69 = some (.iaload, 70) := by decide +kernel
theorem li_153_70 : il_153.lookup 70 = some (.ifCond .le 6, 73) := by decide +kernel
theorem bo_153_73_555da0 : ∀ e ∈ ([(73, .iload 5, 75)] : List (Nat × Instr × Nat)), il_153.lookup e.1 = some e.2 := by decide +kernel
theorem li_153_75 : il_153.lookup 75 = some (.ireturn, 76) := by decide +kernel
theorem bo_153_0_264884 : ∀ e ∈ ([(0, .iload_n 1, 1), (1, .iload_n 2, 2)] : List (Nat × Instr × Nat)), il_153.lookup e.1 = some e.2 := by decide +kernel
theorem li_153_2 : il_153.lookup 2 = some (.invokestatic 288, 5) := by decide +kernel
theorem bo_153_5_d472e4 : ∀ e ∈ ([(5, .istore_n 3, 6), (6, .iconst 0, 7), (7, .istore 4, 9)] : List (Nat × Instr × Nat)), il_153.lookup e.1 = some e.2 := by decide +kernel
theorem bo_154_36_285c9e : ∀ e ∈ ([(36, .iload_n 3, 37), (37, .iconst 4, 38)] : List (Nat × Instr × Nat)), il_154.lookup e.1 = some e.2 := by decide +kernel
theorem li_154_38 : il_154.lookup 38 = some (.if_icmp .ge 75, 41) := by decide +kernel
theorem bo_154_113_580d2a : ∀ e ∈ ([(113, .iinc 2 1, 116), (116, .goto (-112), 119)] : List (Nat × Instr × Nat)), il_154.lookup e.1 = some e.2 := by decide +kernel
theorem bo_154_41_45abaf : ∀ e ∈ ([(41, .aload_n 0, 42)] : List (Nat × Instr × Nat)), il_154.lookup e.1 = some e.2 := by decide +kernel
theorem li_154_42 : il_154.lookup 42 = some (.getfield 138, 45) := by decide +kernel
theorem bo_154_45_26f58f : ∀ e ∈ ([(45, .iconst 4, 46), (46, .iload_n 2, 47), (47, .imul, 48), (48, .iload_n 3, 49), (49, .iadd, 50), (50, .aload_n 0, 51)] : List (Nat × Instr × Nat)), il_154.lookup e.1 = some e.2 := by decide +kernel
theorem li_154_51 : il_154.lookup 51 = some (.getfield 138, 54) := by decide +kernel
theorem bo_154_54_9d532f : ∀ e ∈ ([(54, .iconst 4, 55), (55, .iload_n 2, 56), (56, .iconst 1, 57), (57, .iadd, 58), (58, .imul, 59), (59, .iload_n 3, 60), (60, .iadd, 61)] : List (Nat × Instr × Nat)), il_154.lookup e.1 = some e.2 := by decide +kernel
theorem li_154_61 : il_154.lookup 61 = some (.iaload, 62) := by decide +kernel
theorem li_154_62 : il_154.lookup 62 = some (.iastore, 63) := by decide +kernel
theorem bo_154_63_e22c52 : ∀ e ∈ ([(63, .aload_n 0, 64)] : List (Nat × Instr × Nat)), il_154.lookup e.1 = some e.2 := by decide +kernel
theorem li_154_64 : il_154.lookup 64 = some (.getfield 141, 67) := by decide +kernel
theorem bo_154_67_f86a8d : ∀ e ∈ ([(67, .iconst 4, 68), (68, .iload_n 2, 69), (69, .imul, 70), (70, .iload_n 3, 71), (71, .iadd, 72), (72, .aload_n 0, 73)] : List (Nat × Instr × Nat)), il_154.lookup e.1 = some e.2 := by decide +kernel
theorem li_154_73 : il_154.lookup 73 = some (.getfield 141, 76) := by decide +kernel
theorem bo_154_76_095ec8 : ∀ e ∈ ([(76, .iconst 4, 77), (77, .iload_n 2, 78), (78, .iconst 1, 79), (79, .iadd, 80), (80, .imul, 81), (81, .iload_n 3, 82), (82, .iadd, 83)] : List (Nat × Instr × Nat)), il_154.lookup e.1 = some e.2 := by decide +kernel
theorem li_154_83 : il_154.lookup 83 = some (.iaload, 84) := by decide +kernel
theorem li_154_84 : il_154.lookup 84 = some (.iastore, 85) := by decide +kernel
theorem bo_154_85_4765e0 : ∀ e ∈ ([(85, .aload_n 0, 86)] : List (Nat × Instr × Nat)), il_154.lookup e.1 = some e.2 := by decide +kernel
theorem li_154_86 : il_154.lookup 86 = some (.getfield 144, 89) := by decide +kernel
theorem bo_154_89_d4c8a5 : ∀ e ∈ ([(89, .iconst 4, 90), (90, .iload_n 2, 91), (91, .imul, 92), (92, .iload_n 3, 93), (93, .iadd, 94), (94, .aload_n 0, 95)] : List (Nat × Instr × Nat)), il_154.lookup e.1 = some e.2 := by decide +kernel
theorem li_154_95 : il_154.lookup 95 = some (.getfield 144, 98) := by decide +kernel
theorem bo_154_98_d233dd : ∀ e ∈ ([(98, .iconst 4, 99), (99, .iload_n 2, 100), (100, .iconst 1, 101), (101, .iadd, 102), (102, .imul, 103), (103, .iload_n 3, 104), (104, .iadd, 105)] : List (Nat × Instr × Nat)), il_154.lookup e.1 = some e.2 := by decide +kernel
theorem li_154_105 : il_154.lookup 105 = some (.iaload, 106) := by decide +kernel
theorem li_154_106 : il_154.lookup 106 = some (.iastore, 107) := by decide +kernel
theorem bo_154_107_14d64f : ∀ e ∈ ([(107, .iinc 3 1, 110), (110, .goto (-74), 113)] : List (Nat × Instr × Nat)), il_154.lookup e.1 = some e.2 := by decide +kernel
theorem bo_154_4_11b46d : ∀ e ∈ ([(4, .iload_n 2, 5), (5, .iconst 1, 6), (6, .iadd, 7), (7, .iconst 4, 8), (8, .iload_n 1, 9), (9, .imul, 10), (10, .aload_n 0, 11)] : List (Nat × Instr × Nat)), il_154.lookup e.1 = some e.2 := by decide +kernel
theorem li_154_11 : il_154.lookup 11 = some (.getfield 129, 14) := by decide +kernel
theorem bo_154_14_3e81ce : ∀ e ∈ ([(14, .iload_n 1, 15)] : List (Nat × Instr × Nat)), il_154.lookup e.1 = some e.2 := by decide +kernel
theorem li_154_15 : il_154.lookup 15 = some (.iaload, 16) := by decide +kernel
theorem bo_154_16_862b1a : ∀ e ∈ ([(16, .iadd, 17)] : List (Nat × Instr × Nat)), il_154.lookup e.1 = some e.2 := by decide +kernel
theorem li_154_17 : il_154.lookup 17 = some (.if_icmp .ge 102, 20) := by decide +kernel
theorem bo_154_119_726151 : ∀ e ∈ ([(119, .aload_n 0, 120)] : List (Nat × Instr × Nat)), il_154.lookup e.1 = some e.2 := by decide +kernel
theorem li_154_120 : il_154.lookup 120 = some (.getfield 129, 123) := by decide +kernel
theorem bo_154_123_30aefa : ∀ e ∈ ([(123, .iload_n 1, 124), (124, .dup2, 125)] : List (Nat × Instr × Nat)), il_154.lookup e.1 = some e.2 := by decide +kernel
theorem li_154_125 : il_154.lookup 125 = some (.iaload, 126) := by decide +kernel
theorem bo_154_126_66327d : ∀ e ∈ ([(126, .iconst 1, 127), (127, .isub, 128)] : List (Nat × Instr × Nat)), il_154.lookup e.1 = some e.2 := by decide +kernel
theorem li_154_128 : il_154.lookup 128 = some (.iastore, 129) := by decide +kernel
theorem bo_154_129_624512 : ∀ e ∈ ([(129, .aload_n 0, 130)] : List (Nat × Instr × Nat)), il_154.lookup e.1 = some e.2 := by decide +kernel
theorem li_154_130 : il_154.lookup 130 = some (.getfield 132, 133) := by decide +kernel
theorem bo_154_133_053401 : ∀ e ∈ ([(133, .iload_n 1, 134), (134, .iconst 0, 135)] : List (Nat × Instr × Nat)), il_154.lookup e.1 = some e.2 := by decide +kernel
theorem li_154_135 : il_154.lookup 135 = some (.iastore, 136) := by decide +kernel
theorem li_154_136 : il_154.lookup 136 = some (.return_, 137) := by decide +kernel
theorem bo_154_20_baa9a0 : ∀ e ∈ ([(20, .aload_n 0, 21)] : List (Nat × Instr × Nat)), il_154.lookup e.1 = some e.2 := by decide +kernel
theorem li_154_21 : il_154.lookup 21 = some (.getfield 135, 24) := by decide +kernel
theorem bo_154_24_35ae4e : ∀ e ∈ ([(24, .iload_n 2, 25), (25, .aload_n 0, 26)] : List (Nat × Instr × Nat)), il_154.lookup e.1 = some e.2 := by decide +kernel
theorem li_154_26 : il_154.lookup 26 = some (.getfield 135, 29) := by decide +kernel
theorem bo_154_29_a80446 : ∀ e ∈ ([(29, .iload_n 2, 30), (30, .iconst 1, 31), (31, .iadd, 32)] : List (Nat × Instr × Nat)), il_154.lookup e.1 = some e.2 := by decide +kernel
theorem li_154_32 : il_154.lookup 32 = some (.iaload, 33) := by decide +kernel
theorem li_154_33 : il_154.lookup 33 = some (.iastore, 34) := by decide +kernel
theorem bo_154_34_812988 : ∀ e ∈ ([(34, .iconst 0, 35), (35, .istore_n 3, 36)] : List (Nat × Instr × Nat)), il_154.lookup e.1 = some e.2 := by decide +kernel
theorem bo_154_0_5a4d31 : ∀ e ∈ ([(0, .iconst 4, 1), (1, .iload_n 1, 2), (2, .imul, 3), (3, .istore_n 2, 4)] : List (Nat × Instr × Nat)), il_154.lookup e.1 = some e.2 := by decide +kernel
theorem bo_155_79_19d3c4 : ∀ e ∈ ([(79, .iinc 3 1, 82), (82, .goto (-80), 85)] : List (Nat × Instr × Nat)), il_155.lookup e.1 = some e.2 := by decide +kernel
theorem bo_155_85_4765e0 : ∀ e ∈ ([(85, .aload_n 0, 86)] : List (Nat × Instr × Nat)), il_155.lookup e.1 = some e.2 := by decide +kernel
theorem li_155_86 : il_155.lookup 86 = some (.getfield 87, 89) := by decide +kernel
theorem bo_155_89_e2064f : ∀ e ∈ ([(89, .iload_n 1, 90), (90, .iload_n 2, 91)] : List (Nat × Instr × Nat)), il_155.lookup e.1 = some e.2 := by decide +kernel
theorem li_155_91 : il_155.lookup 91 = some (.invokestatic 288, 94) := by decide +kernel
theorem bo_155_94_6615ab : ∀ e ∈ ([(94, .aload_n 0, 95)] : List (Nat × Instr × Nat)), il_155.lookup e.1 = some e.2 := by decide +kernel
theorem li_155_95 : il_155.lookup 95 = some (.getfield 84, 98) := by decide +kernel
theorem bo_155_98_51a86b : ∀ e ∈ ([(98, .iload_n 1, 99), (99, .iload_n 2, 100)] : List (Nat × Instr × Nat)), il_155.lookup e.1 = some e.2 := by decide +kernel
theorem li_155_100 : il_155.lookup 100 = some (.invokestatic 288, 103) := by decide +kernel
theorem li_155_103 : il_155.lookup 103 = some (.iaload, 104) := by decide +kernel
theorem li_155_104 : il_155.lookup 104 = some (.iastore, 105) := by decide +kernel
theorem li_155_105 : il_155.lookup 105 = some (.return_, 106) := by decide +kernel
theorem bo_155_2_d916f9 : ∀ e ∈ ([(2, .iload_n 3, 3), (3, .bipush 16, 5)] : List (Nat × Instr × Nat)), il_155.lookup e.1 = some e.2 := by decide +kernel
theorem li_155_5 : il_155.lookup 5 = some (.if_icmp .ge 80, 8) := by decide +kernel
theorem bo_155_8_0adad6 : ∀ e ∈ ([(8, .aload_n 0, 9), (9, .iload_n 1, 10)] : List (Nat × Instr × Nat)), il_155.lookup e.1 = some e.2 := by decide +kernel
theorem li_155_10 : il_155.lookup 10 = some (.invokevirtual 281, 13) := by decide +kernel
theorem li_155_13 : il_155.lookup 13 = some (.ifCond .eq 72, 16) := by decide +kernel
theorem bo_155_16_f5136c : ∀ e ∈ ([(16, .bipush 16, 18), (18, .iload_n 1, 19), (19, .imul, 20), (20, .iload_n 3, 21), (21, .iadd, 22), (22, .istore 4, 24), (24, .aload_n 0, 25), (25, .iload_n 1, 26), (26, .iload_n 3, 27)] : List (Nat × Instr × Nat)), il_155.lookup e.1 = some e.2 := by decide +kernel
theorem li_155_27 : il_155.lookup 27 = some (.invokevirtual 285, 30) := by decide +kernel
theorem bo_155_30_0b4e4a : ∀ e ∈ ([(30, .iload_n 2, 31)] : List (Nat × Instr × Nat)), il_155.lookup e.1 = some e.2 := by decide +kernel
theorem li_155_31 : il_155.lookup 31 = some (.if_icmp .eq 6, 34) := by decide +kernel
theorem bo_155_37_a21c9f : ∀ e ∈ ([(37, .aload_n 0, 38)] : List (Nat × Instr × Nat)), il_155.lookup e.1 = some e.2 := by decide +kernel
theorem li_155_38 : il_155.lookup 38 = some (.getfield 60, 41) := by decide +kernel
theorem bo_155_41_ce15fd : ∀ e ∈ ([(41, .iload 4, 43), (43, .aload_n 0, 44)] : List (Nat × Instr × Nat)), il_155.lookup e.1 = some e.2 := by decide +kernel
theorem li_155_44 : il_155.lookup 44 = some (.getfield 56, 47) := by decide +kernel
theorem bo_155_47_d7fa8e : ∀ e ∈ ([(47, .iload 4, 49)] : List (Nat × Instr × Nat)), il_155.lookup e.1 = some e.2 := by decide +kernel
theorem li_155_49 : il_155.lookup 49 = some (.baload, 50) := by decide +kernel
theorem li_155_50 : il_155.lookup 50 = some (.bastore, 51) := by decide +kernel
theorem bo_155_51_93c172 : ∀ e ∈ ([(51, .aload_n 0, 52)] : List (Nat × Instr × Nat)), il_155.lookup e.1 = some e.2 := by decide +kernel
theorem li_155_52 : il_155.lookup 52 = some (.getfield 69, 55) := by decide +kernel
theorem bo_155_55_6a6cc2 : ∀ e ∈ ([(55, .iload 4, 57), (57, .aload_n 0, 58)] : List (Nat × Instr × Nat)), il_155.lookup e.1 = some e.2 := by decide +kernel
theorem li_155_58 : il_155.lookup 58 = some (.getfield 66, 61) := by decide +kernel
theorem bo_155_61_769b30 : ∀ e ∈ ([(61, .iload 4, 63)] : List (Nat × Instr × Nat)), il_155.lookup e.1 = some e.2 := by decide +kernel
theorem li_155_63 : il_155.lookup 63 = some (.iaload, 64) := by decide +kernel
theorem li_155_64 : il_155.lookup 64 = some (.iastore, 65) := by decide +kernel
theorem bo_155_65_a2326b : ∀ e ∈ ([(65, .aload_n 0, 66)] : List (Nat × Instr × Nat)), il_155.lookup e.1 = some e.2 := by decide +kernel
theorem li_155_66 : il_155.lookup 66 = some (.getfield 78, 69) := by decide +kernel
theorem bo_155_69_8c58f6 : ∀ e ∈ ([(69, .iload 4, 71), (71, .aload_n 0, 72)] : List (Nat × Instr × Nat)), il_155.lookup e.1 = some e.2 := by decide +kernel
theorem li_155_72 : il_155.lookup 72 = some (.getfield 75, 75) := by decide +kernel
theorem bo_155_75_1f1f88 : ∀ e ∈ ([(75, .iload 4, 77)] : List (Nat × Instr × Nat)), il_155.lookup e.1 = some e.2 := by decide +kernel
theorem li_155_77 : il_155.lookup 77 = some (.iaload, 78) := by decide +kernel
theorem li_155_78 : il_155.lookup 78 = some (.iastore, 79) := by decide +kernel
theorem bo_155_34_130638 : ∀ e ∈ ([(34, .goto 45, 37)] : List (Nat × Instr × Nat)), il_155.lookup e.1 = some e.2 := by decide +kernel
theorem bo_155_0_264884 : ∀ e ∈ ([(0, .iconst 0, 1), (1, .istore_n 3, 2)] : List (Nat × Instr × Nat)), il_155.lookup e.1 = some e.2 := by decide +kernel
theorem bo_156_52_9f6391 : ∀ e ∈ ([(52, .iload_n 1, 53), (53, .bipush 18, 55)] : List (Nat × Instr × Nat)), il_156.lookup e.1 = some e.2 := by decide +kernel
theorem li_156_55 : il_156.lookup 55 = some (.if_icmp .ge 21, 58) := by decide +kernel
theorem bo_156_76_3caaf4 : ∀ e ∈ ([(76, .aload_n 0, 77), (77, .aload_n 0, 78)] : List (Nat × Instr × Nat)), il_156.lookup e.1 = some e.2 := by decide +kernel
theorem li_156_78 : il_156.lookup 78 = some (.getfield 312, 81) := by decide +kernel
theorem li_156_81 : il_156.lookup 81 = some (.putfield 262, 84) := by decide +kernel
theorem bo_156_84_fc726c : ∀ e ∈ ([(84, .aload_n 0, 85), (85, .aload_n 0, 86)] : List (Nat × Instr × Nat)), il_156.lookup e.1 = some e.2 := by decide +kernel
theorem li_156_86 : il_156.lookup 86 = some (.getfield 268, 89) := by decide +kernel
theorem li_156_89 : il_156.lookup 89 = some (.putfield 253, 92) := by decide +kernel
theorem bo_156_92_f850a5 : ∀ e ∈ ([(92, .aload_n 0, 93), (93, .iconst 0, 94)] : List (Nat × Instr × Nat)), il_156.lookup e.1 = some e.2 := by decide +kernel
theorem li_156_94 : il_156.lookup 94 = some (.putfield 268, 97) := by decide +kernel
theorem li_156_97 : il_156.lookup 97 = some (.return_, 98) := by decide +kernel
theorem bo_156_58_df393a : ∀ e ∈ ([(58, .aload_n 0, 59)] : List (Nat × Instr × Nat)), il_156.lookup e.1 = some e.2 := by decide +kernel
theorem li_156_59 : il_156.lookup 59 = some (.getfield 90, 62) := by decide +kernel
theorem bo_156_62_322124 : ∀ e ∈ ([(62, .iload_n 1, 63), (63, .aload_n 0, 64)] : List (Nat × Instr × Nat)), il_156.lookup e.1 = some e.2 := by decide +kernel
theorem li_156_64 : il_156.lookup 64 = some (.getfield 87, 67) := by decide +kernel
theorem bo_156_67_ded3a4 : ∀ e ∈ ([(67, .iload_n 1, 68)] : List (Nat × Instr × Nat)), il_156.lookup e.1 = some e.2 := by decide +kernel
theorem li_156_68 : il_156.lookup 68 = some (.iaload, 69) := by decide +kernel
theorem li_156_69 : il_156.lookup 69 = some (.iastore, 70) := by decide +kernel
theorem bo_156_70_4e5c70 : ∀ e ∈ ([(70, .iinc 1 1, 73), (73, .goto (-21), 76)] : List (Nat × Instr × Nat)), il_156.lookup e.1 = some e.2 := by decide +kernel
theorem bo_156_2_d916f9 : ∀ e ∈ ([(2, .iload_n 1, 3), (3, .bipush 96, 5)] : List (Nat × Instr × Nat)), il_156.lookup e.1 = some e.2 := by decide +kernel
theorem li_156_5 : il_156.lookup 5 = some (.if_icmp .ge 45, 8) := by decide +kernel
theorem bo_156_50_b22ebb : ∀ e ∈ ([(50, .iconst 0, 51), (51, .istore_n 1, 52)] : List (Nat × Instr × Nat)), il_156.lookup e.1 = some e.2 := by decide +kernel
theorem bo_156_8_383530 : ∀ e ∈ ([(8, .aload_n 0, 9)] : List (Nat × Instr × Nat)), il_156.lookup e.1 = some e.2 := by decide +kernel
theorem li_156_9 : il_156.lookup 9 = some (.getfield 63, 12) := by decide +kernel
theorem bo_156_12_1089ca : ∀ e ∈ ([(12, .iload_n 1, 13), (13, .aload_n 0, 14)] : List (Nat × Instr × Nat)), il_156.lookup e.1 = some e.2 := by decide +kernel
theorem li_156_14 : il_156.lookup 14 = some (.getfield 60, 17) := by decide +kernel
theorem bo_156_17_509256 : ∀ e ∈ ([(17, .iload_n 1, 18)] : List (Nat × Instr × Nat)), il_156.lookup e.1 = some e.2 := by decide +kernel
theorem li_156_18 : il_156.lookup 18 = some (.baload, 19) := by decide +kernel
theorem li_156_19 : il_156.lookup 19 = some (.bastore, 20) := by decide +kernel
theorem bo_156_20_baa9a0 : ∀ e ∈ ([(20, .aload_n 0, 21)] : List (Nat × Instr × Nat)), il_156.lookup e.1 = some e.2 := by decide +kernel
theorem li_156_21 : il_156.lookup 21 = some (.getfield 72, 24) := by decide +kernel
theorem bo_156_24_35ae4e : ∀ e ∈ ([(24, .iload_n 1, 25), (25, .aload_n 0, 26)] : List (Nat × Instr × Nat)), il_156.lookup e.1 = some e.2 := by decide +kernel
theorem li_156_26 : il_156.lookup 26 = some (.getfield 69, 29) := by decide +kernel
theorem bo_156_29_2d7a5f : ∀ e ∈ ([(29, .iload_n 1, 30)] : List (Nat × Instr × Nat)), il_156.lookup e.1 = some e.2 := by decide +kernel
theorem li_156_30 : il_156.lookup 30 = some (.iaload, 31) := by decide +kernel
theorem li_156_31 : il_156.lookup 31 = some (.iastore, 32) := by decide +kernel
theorem bo_156_32_191034 : ∀ e ∈ ([(32, .aload_n 0, 33)] : List (Nat × Instr × Nat)), il_156.lookup e.1 = some e.2 := by decide +kernel
theorem li_156_33 : il_156.lookup 33 = some (.getfield 81, 36) := by decide +kernel
theorem bo_156_36_285c9e : ∀ e ∈ ([(36, .iload_n 1, 37), (37, .aload_n 0, 38)] : List (Nat × Instr × Nat)), il_156.lookup e.1 = some e.2 := by decide +kernel
theorem li_156_38 : il_156.lookup 38 = some (.getfield 78, 41) := by decide +kernel
theorem bo_156_41_45abaf : ∀ e ∈ ([(41, .iload_n 1, 42)] : List (Nat × Instr × Nat)), il_156.lookup e.1 = some e.2 := by decide +kernel
theorem li_156_42 : il_156.lookup 42 = some (.iaload, 43) := by decide +kernel
theorem li_156_43 : il_156.lookup 43 = some (.iastore, 44) := by decide +kernel
theorem bo_156_44_bb7a25 : ∀ e ∈ ([(44, .iinc 1 1, 47), (47, .goto (-45), 50)] : List (Nat × Instr × Nat)), il_156.lookup e.1 = some e.2 := by decide +kernel
theorem bo_156_0_264884 : ∀ e ∈ ([(0, .iconst 0, 1), (1, .istore_n 1, 2)] : List (Nat × Instr × Nat)), il_156.lookup e.1 = some e.2 := by decide +kernel
theorem bo_157_0_264884 : ∀ e ∈ ([(0, .iload_n 1, 1), (1, .iload_n 2, 2)] : List (Nat × Instr × Nat)), il_157.lookup e.1 = some e.2 := by decide +kernel
theorem li_157_2 : il_157.lookup 2 = some (.invokestatic 288, 5) := by decide +kernel
theorem bo_157_5_b1d84f : ∀ e ∈ ([(5, .istore 4, 7), (7, .aload_n 0, 8)] : List (Nat × Instr × Nat)), il_157.lookup e.1 = some e.2 := by decide +kernel
theorem li_157_8 : il_157.lookup 8 = some (.getfield 105, 11) := by decide +kernel
theorem bo_157_11_1361d3 : ∀ e ∈ ([(11, .iload 4, 13), (13, .dup2, 14)] : List (Nat × Instr × Nat)), il_157.lookup e.1 = some e.2 := by decide +kernel
theorem li_157_14 : il_157.lookup 14 = some (.iaload, 15) := by decide +kernel
theorem bo_157_15_304ad9 : ∀ e ∈ ([(15, .iconst 1, 16), (16, .iload_n 3, 17), (17, .ishl, 18), (18, .ior, 19)] : List (Nat × Instr × Nat)), il_157.lookup e.1 = some e.2 := by decide +kernel
theorem li_157_19 : il_157.lookup 19 = some (.iastore, 20) := by decide +kernel
theorem bo_157_20_baa9a0 : ∀ e ∈ ([(20, .aload_n 0, 21)] : List (Nat × Instr × Nat)), il_157.lookup e.1 = some e.2 := by decide +kernel
theorem li_157_21 : il_157.lookup 21 = some (.getfield 105, 24) := by decide +kernel
theorem bo_157_24_99aa1d : ∀ e ∈ ([(24, .iload 4, 26)] : List (Nat × Instr × Nat)), il_157.lookup e.1 = some e.2 := by decide +kernel
theorem li_157_26 : il_157.lookup 26 = some (.iaload, 27) := by decide +kernel
theorem bo_157_27_fe3fdb : ∀ e ∈ ([(27, .iconst 1, 28), (28, .aload_n 0, 29)] : List (Nat × Instr × Nat)), il_157.lookup e.1 = some e.2 := by decide +kernel
theorem li_157_29 : il_157.lookup 29 = some (.getfield 22, 32) := by decide +kernel
theorem bo_157_32_c319a3 : ∀ e ∈ ([(32, .iload_n 1, 33), (33, .iconst 1, 34), (34, .isub, 35)] : List (Nat × Instr × Nat)), il_157.lookup e.1 = some e.2 := by decide +kernel
theorem li_157_35 : il_157.lookup 35 = some (.iaload, 36) := by decide +kernel
theorem bo_157_36_279f11 : ∀ e ∈ ([(36, .ishl, 37), (37, .iconst 1, 38), (38, .isub, 39)] : List (Nat × Instr × Nat)), il_157.lookup e.1 = some e.2 := by decide +kernel
theorem li_157_39 : il_157.lookup 39 = some (.if_icmp .eq 4, 42) := by decide +kernel
theorem bo_157_43_d85b47 : ∀ e ∈ ([(43, .aload_n 0, 44)] : List (Nat × Instr × Nat)), il_157.lookup e.1 = some e.2 := by decide +kernel
theorem li_157_44 : il_157.lookup 44 = some (.getfield 105, 47) := by decide +kernel
theorem bo_157_47_3cd117 : ∀ e ∈ ([(47, .iload 4, 49), (49, .iconst 0, 50)] : List (Nat × Instr × Nat)), il_157.lookup e.1 = some e.2 := by decide +kernel
theorem li_157_50 : il_157.lookup 50 = some (.iastore, 51) := by decide +kernel
theorem bo_157_51_82f556 : ∀ e ∈ ([(51, .aload_n 0, 52), (52, .iload_n 1, 53), (53, .iload_n 2, 54)] : List (Nat × Instr × Nat)), il_157.lookup e.1 = some e.2 := by decide +kernel
theorem li_157_54 : il_157.lookup 54 = some (.invokevirtual 315, 57) := by decide +kernel
theorem bo_157_57_1292c4 : ∀ e ∈ ([(57, .iload_n 1, 58), (58, .aload_n 0, 59)] : List (Nat × Instr × Nat)), il_157.lookup e.1 = some e.2 := by decide +kernel
theorem li_157_59 : il_157.lookup 59 = some (.invokevirtual 199, 62) := by decide +kernel
theorem li_157_62 : il_157.lookup 62 = some (.if_icmp .ge 12, 65) := by decide +kernel
theorem bo_157_74_f61e5a : ∀ e ∈ ([(74, .aload_n 0, 75), (75, .dup, 76)] : List (Nat × Instr × Nat)), il_157.lookup e.1 = some e.2 := by decide +kernel
theorem li_157_76 : il_157.lookup 76 = some (.getfield 318, 79) := by decide +kernel
theorem bo_157_79_5b2908 : ∀ e ∈ ([(79, .iconst 1, 80), (80, .iadd, 81)] : List (Nat × Instr × Nat)), il_157.lookup e.1 = some e.2 := by decide +kernel
theorem li_157_81 : il_157.lookup 81 = some (.putfield 318, 84) := by decide +kernel
theorem bo_157_84_8a7630 : ∀ e ∈ ([(84, .aload_n 0, 85)] : List (Nat × Instr × Nat)), il_157.lookup e.1 = some e.2 := by decide +kernel
theorem li_157_85 : il_157.lookup 85 = some (.getfield 318, 88) := by decide +kernel
theorem bo_157_88_92252f : ∀ e ∈ ([(88, .aload_n 0, 89)] : List (Nat × Instr × Nat)), il_157.lookup e.1 = some e.2 := by decide +kernel
theorem li_157_89 : il_157.lookup 89 = some (.getfield 22, 92) := by decide +kernel
theorem bo_157_92_b12865 : ∀ e ∈ ([(92, .iload_n 1, 93)] : List (Nat × Instr × Nat)), il_157.lookup e.1 = some e.2 := by decide +kernel
theorem li_157_93 : il_157.lookup 93 = some (.iaload, 94) := by decide +kernel
theorem li_157_94 : il_157.lookup 94 = some (.if_icmp .ne 7, 97) := by decide +kernel
theorem li_157_101 : il_157.lookup 101 = some (.return_, 102) := by decide +kernel
theorem bo_157_97_df0ce8 : ∀ e ∈ ([(97, .aload_n 0, 98)] : List (Nat × Instr × Nat)), il_157.lookup e.1 = some e.2 := by decide +kernel
theorem li_157_98 : il_157.lookup 98 = some (.invokevirtual 321, 101) := by decide +kernel
theorem bo_157_65_a2326b : ∀ e ∈ ([(65, .aload_n 0, 66)] : List (Nat × Instr × Nat)), il_157.lookup e.1 = some e.2 := by decide +kernel
theorem li_157_66 : il_157.lookup 66 = some (.getfield 111, 69) := by decide +kernel
theorem bo_157_69_8c58f6 : ∀ e ∈ ([(69, .iload 4, 71), (71, .iconst 1, 72)] : List (Nat × Instr × Nat)), il_157.lookup e.1 = some e.2 := by decide +kernel
theorem li_157_72 : il_157.lookup 72 = some (.bastore, 73) := by decide +kernel
theorem li_157_73 : il_157.lookup 73 = some (.return_, 74) := by decide +kernel
theorem li_157_42 : il_157.lookup 42 = some (.return_, 43) := by decide +kernel
theorem bo_158_0_8d5162 : ∀ e ∈ ([(0, .aload_n 0, 1)] : List (Nat × Instr × Nat)), il_158.lookup e.1 = some e.2 := by decide +kernel
theorem li_158_1 : il_158.lookup 1 = some (.getfield 163, 4) := by decide +kernel
theorem bo_158_4_e962e2 : ∀ e ∈ ([(4, .aload_n 0, 5)] : List (Nat × Instr × Nat)), il_158.lookup e.1 = some e.2 := by decide +kernel
theorem li_158_5 : il_158.lookup 5 = some (.getfield 291, 8) := by decide +kernel
theorem bo_158_8_383530 : ∀ e ∈ ([(8, .iload_n 1, 9)] : List (Nat × Instr × Nat)), il_158.lookup e.1 = some e.2 := by decide +kernel
theorem li_158_9 : il_158.lookup 9 = some (.iastore, 10) := by decide +kernel
theorem bo_158_10_2a30f5 : ∀ e ∈ ([(10, .aload_n 0, 11)] : List (Nat × Instr × Nat)), il_158.lookup e.1 = some e.2 := by decide +kernel
theorem li_158_11 : il_158.lookup 11 = some (.getfield 166, 14) := by decide +kernel
theorem bo_158_14_3e81ce : ∀ e ∈ ([(14, .aload_n 0, 15)] : List (Nat × Instr × Nat)), il_158.lookup e.1 = some e.2 := by decide +kernel
theorem li_158_15 : il_158.lookup 15 = some (.getfield 291, 18) := by decide +kernel
theorem bo_158_18_2b31d8 : ∀ e ∈ ([(18, .iload_n 2, 19)] : List (Nat × Instr × Nat)), il_158.lookup e.1 = some e.2 := by decide +kernel
theorem li_158_19 : il_158.lookup 19 = some (.iastore, 20) := by decide +kernel
theorem bo_158_20_aa2fda : ∀ e ∈ ([(20, .aload_n 0, 21), (21, .dup, 22)] : List (Nat × Instr × Nat)), il_158.lookup e.1 = some e.2 := by decide +kernel
theorem li_158_22 : il_158.lookup 22 = some (.getfield 291, 25) := by decide +kernel
theorem bo_158_25_6328ed : ∀ e ∈ ([(25, .iconst 1, 26), (26, .iadd, 27)] : List (Nat × Instr × Nat)), il_158.lookup e.1 = some e.2 := by decide +kernel
theorem li_158_27 : il_158.lookup 27 = some (.putfield 291, 30) := by decide +kernel
theorem li_158_30 : il_158.lookup 30 = some (.return_, 31) := by decide +kernel
theorem bo_159_0_264884 : ∀ e ∈ ([(0, .iload_n 0, 1), (1, .bipush 16, 3)] : List (Nat × Instr × Nat)), il_159.lookup e.1 = some e.2 := by decide +kernel
theorem li_159_3 : il_159.lookup 3 = some (.irem, 4) := by decide +kernel
theorem bo_159_4_40e659 : ∀ e ∈ ([(4, .istore_n 1, 5), (5, .iload_n 1, 6)] : List (Nat × Instr × Nat)), il_159.lookup e.1 = some e.2 := by decide +kernel
theorem li_159_6 : il_159.lookup 6 = some (.ifCond .ge 10, 9) := by decide +kernel
theorem bo_159_16_862b1a : ∀ e ∈ ([(16, .iload_n 1, 17)] : List (Nat × Instr × Nat)), il_159.lookup e.1 = some e.2 := by decide +kernel
theorem li_159_17 : il_159.lookup 17 = some (.ireturn, 18) := by decide +kernel
theorem bo_159_9_efc705 : ∀ e ∈ ([(9, .iload_n 1, 10), (10, .bipush 16, 12), (12, .iadd, 13), (13, .goto 4, 16)] : List (Nat × Instr × Nat)), il_159.lookup e.1 = some e.2 := by decide +kernel
theorem bo_160_144_327582 : ∀ e ∈ ([(144, .aload_n 0, 145), (145, .iload_n 2, 146), (146, .iload_n 3, 147)] : List (Nat × Instr × Nat)), il_160.lookup e.1 = some e.2 := by decide +kernel
theorem li_160_147 : il_160.lookup 147 = some (.invokevirtual 294, 150) := by decide +kernel
theorem li_160_150 : il_160.lookup 150 = some (.return_, 151) := by decide +kernel
theorem bo_160_178_4e84fd : ∀ e ∈ ([(178, .iload 9, 180), (180, .aload_n 0, 181)] : List (Nat × Instr × Nat)), il_160.lookup e.1 = some e.2 := by decide +kernel
theorem li_160_181 : il_160.lookup 181 = some (.getfield 16, 184) := by decide +kernel
theorem bo_160_184_35f04e : ∀ e ∈ ([(184, .iload_n 1, 185)] : List (Nat × Instr × Nat)), il_160.lookup e.1 = some e.2 := by decide +kernel
theorem li_160_185 : il_160.lookup 185 = some (.iaload, 186) := by decide +kernel
theorem li_160_186 : il_160.lookup 186 = some (.if_icmp .ge 18, 189) := by decide +kernel
theorem li_160_204 : il_160.lookup 204 = some (.return_, 205) := by decide +kernel
theorem bo_160_189_ed5680 : ∀ e ∈ ([(189, .aload_n 0, 190), (190, .iload_n 2, 191), (191, .iload_n 3, 192), (192, .iload 9, 194), (194, .iadd, 195)] : List (Nat × Instr × Nat)), il_160.lookup e.1 = some e.2 := by decide +kernel
theorem li_160_195 : il_160.lookup 195 = some (.invokevirtual 294, 198) := by decide +kernel
theorem bo_160_198_a68f79 : ∀ e ∈ ([(198, .iinc 9 1, 201), (201, .goto (-23), 204)] : List (Nat × Instr × Nat)), il_160.lookup e.1 = some e.2 := by decide +kernel
theorem bo_160_358_2bf652 : ∀ e ∈ ([(358, .aload 4, 360), (360, .iload 7, 362), (362, .iconst 1, 363)] : List (Nat × Instr × Nat)), il_160.lookup e.1 = some e.2 := by decide +kernel
theorem li_160_363 : il_160.lookup 363 = some (.bastore, 364) := by decide +kernel
theorem li_160_364 : il_160.lookup 364 = some (.return_, 365) := by decide +kernel
theorem bo_160_225_a55761 : ∀ e ∈ ([(225, .aload 5, 227), (227, .iload 7, 229), (229, .iload_n 3, 230)] : List (Nat × Instr × Nat)), il_160.lookup e.1 = some e.2 := by decide +kernel
theorem li_160_230 : il_160.lookup 230 = some (.iastore, 231) := by decide +kernel
theorem bo_160_231_706a6d : ∀ e ∈ ([(231, .aload 6, 233), (233, .iload 7, 235), (235, .iconst 0, 236)] : List (Nat × Instr × Nat)), il_160.lookup e.1 = some e.2 := by decide +kernel
theorem li_160_236 : il_160.lookup 236 = some (.iastore, 237) := by decide +kernel
theorem bo_160_237_b56014 : ∀ e ∈ ([(237, .goto 121, 240)] : List (Nat × Instr × Nat)), il_160.lookup e.1 = some e.2 := by decide +kernel
theorem bo_160_219_5c6145 : ∀ e ∈ ([(219, .aload_n 0, 220), (220, .iload_n 2, 221), (221, .iload_n 3, 222)] : List (Nat × Instr × Nat)), il_160.lookup e.1 = some e.2 := by decide +kernel
theorem li_160_222 : il_160.lookup 222 = some (.invokevirtual 294, 225) := by decide +kernel
theorem bo_160_266_590e10 : ∀ e ∈ ([(266, .aload 6, 268), (268, .iload 7, 270), (270, .iconst 0, 271)] : List (Nat × Instr × Nat)), il_160.lookup e.1 = some e.2 := by decide +kernel
theorem li_160_271 : il_160.lookup 271 = some (.iastore, 272) := by decide +kernel
theorem bo_160_272_f6746a : ∀ e ∈ ([(272, .goto 86, 275)] : List (Nat × Instr × Nat)), il_160.lookup e.1 = some e.2 := by decide +kernel
theorem bo_160_254_15c1af : ∀ e ∈ ([(254, .aload_n 0, 255), (255, .iload_n 2, 256), (256, .iload_n 3, 257)] : List (Nat × Instr × Nat)), il_160.lookup e.1 = some e.2 := by decide +kernel
theorem li_160_257 : il_160.lookup 257 = some (.invokevirtual 294, 260) := by decide +kernel
theorem bo_160_260_80af30 : ∀ e ∈ ([(260, .aload 5, 262), (262, .iload 7, 264), (264, .iload_n 3, 265)] : List (Nat × Instr × Nat)), il_160.lookup e.1 = some e.2 := by decide +kernel
theorem li_160_265 : il_160.lookup 265 = some (.iastore, 266) := by decide +kernel
theorem li_160_316 : il_160.lookup 316 = some (.iastore, 317) := by decide +kernel
theorem bo_160_317_990529 : ∀ e ∈ ([(317, .aload_n 0, 318)] : List (Nat × Instr × Nat)), il_160.lookup e.1 = some e.2 := by decide +kernel
theorem li_160_318 : il_160.lookup 318 = some (.getfield 13, 321) := by decide +kernel
theorem bo_160_321_ab7819 : ∀ e ∈ ([(321, .iload_n 1, 322)] : List (Nat × Instr × Nat)), il_160.lookup e.1 = some e.2 := by decide +kernel
theorem li_160_322 : il_160.lookup 322 = some (.iaload, 323) := by decide +kernel
theorem bo_160_323_b4e6df : ∀ e ∈ ([(323, .iconst 4, 324)] : List (Nat × Instr × Nat)), il_160.lookup e.1 = some e.2 := by decide +kernel
theorem li_160_324 : il_160.lookup 324 = some (.if_icmp .ne 34, 327) := by decide +kernel
theorem bo_160_327_5e7b75 : ∀ e ∈ ([(327, .aload 6, 329), (329, .iload 7, 331)] : List (Nat × Instr × Nat)), il_160.lookup e.1 = some e.2 := by decide +kernel
theorem li_160_331 : il_160.lookup 331 = some (.iaload, 332) := by decide +kernel
theorem bo_160_332_d8115b : ∀ e ∈ ([(332, .aload_n 0, 333)] : List (Nat × Instr × Nat)), il_160.lookup e.1 = some e.2 := by decide +kernel
theorem li_160_333 : il_160.lookup 333 = some (.getfield 16, 336) := by decide +kernel
theorem bo_160_336_94e5b5 : ∀ e ∈ ([(336, .iload_n 1, 337)] : List (Nat × Instr × Nat)), il_160.lookup e.1 = some e.2 := by decide +kernel
theorem li_160_337 : il_160.lookup 337 = some (.iaload, 338) := by decide +kernel
theorem li_160_338 : il_160.lookup 338 = some (.if_icmp .ne 20, 341) := by decide +kernel
theorem bo_160_341_fecc63 : ∀ e ∈ ([(341, .aload_n 0, 342), (342, .iload_n 2, 343), (343, .aload 5, 345), (345, .iload 7, 347)] : List (Nat × Instr × Nat)), il_160.lookup e.1 = some e.2 := by decide +kernel
theorem li_160_347 : il_160.lookup 347 = some (.iaload, 348) := by decide +kernel
theorem li_160_348 : il_160.lookup 348 = some (.invokevirtual 294, 351) := by decide +kernel
theorem bo_160_351_e79e9d : ∀ e ∈ ([(351, .aload 4, 353), (353, .iload 7, 355), (355, .iconst 0, 356)] : List (Nat × Instr × Nat)), il_160.lookup e.1 = some e.2 := by decide +kernel
theorem li_160_356 : il_160.lookup 356 = some (.bastore, 357) := by decide +kernel
theorem li_160_357 : il_160.lookup 357 = some (.return_, 358) := by decide +kernel
theorem li_160_295 : il_160.lookup 295 = some (.iastore, 296) := by decide +kernel
theorem bo_160_296_104de1 : ∀ e ∈ ([(296, .aload 6, 298), (298, .iload 7, 300), (300, .iload 8, 302)] : List (Nat × Instr × Nat)), il_160.lookup e.1 = some e.2 := by decide +kernel
theorem li_160_302 : il_160.lookup 302 = some (.ifCond .eq 13, 305) := by decide +kernel
theorem bo_160_315_090f0b : ∀ e ∈ ([(315, .iconst 1, 316)] : List (Nat × Instr × Nat)), il_160.lookup e.1 = some e.2 := by decide +kernel
theorem bo_160_305_6ec79f : ∀ e ∈ ([(305, .aload 6, 307), (307, .iload 7, 309)] : List (Nat × Instr × Nat)), il_160.lookup e.1 = some e.2 := by decide +kernel
theorem li_160_309 : il_160.lookup 309 = some (.iaload, 310) := by decide +kernel
theorem bo_160_310_4e6647 : ∀ e ∈ ([(310, .iconst 1, 311), (311, .iadd, 312), (312, .goto 4, 315)] : List (Nat × Instr × Nat)), il_160.lookup e.1 = some e.2 := by decide +kernel
theorem bo_160_0_264884 : ∀ e ∈ ([(0, .aload_n 0, 1), (1, .iconst 0, 2)] : List (Nat × Instr × Nat)), il_160.lookup e.1 = some e.2 := by decide +kernel
theorem li_160_2 : il_160.lookup 2 = some (.putfield 291, 5) := by decide +kernel
theorem bo_160_5_e534d1 : ∀ e ∈ ([(5, .bipush 16, 7), (7, .iload_n 1, 8), (8, .imul, 9), (9, .iload_n 2, 10), (10, .iadd, 11), (11, .istore 7, 13), (13, .aload 4, 15), (15, .iload 7, 17)] : List (Nat × Instr × Nat)), il_160.lookup e.1 = some e.2 := by decide +kernel
theorem li_160_17 : il_160.lookup 17 = some (.baload, 18) := by decide +kernel
theorem bo_160_18_af735d : ∀ e ∈ ([(18, .istore 8, 20), (20, .aload_n 0, 21)] : List (Nat × Instr × Nat)), il_160.lookup e.1 = some e.2 := by decide +kernel
theorem li_160_21 : il_160.lookup 21 = some (.getfield 13, 24) := by decide +kernel
theorem bo_160_24_99aa1d : ∀ e ∈ ([(24, .iload_n 1, 25)] : List (Nat × Instr × Nat)), il_160.lookup e.1 = some e.2 := by decide +kernel
theorem li_160_25 : il_160.lookup 25 = some (.iaload, 26) := by decide +kernel
theorem li_160_26 : il_160.lookup 26 = some (.tableswitch 249 0 6 #[42, 63, 125, 149, 249, 179, 214], 68) := by decide +kernel
theorem bo_160_68_e39d4a : ∀ e ∈ ([(68, .aload_n 0, 69), (69, .iload_n 2, 70), (70, .iload_n 3, 71), (71, .aload_n 0, 72)] : List (Nat × Instr × Nat)), il_160.lookup e.1 = some e.2 := by decide +kernel
theorem li_160_72 : il_160.lookup 72 = some (.getfield 16, 75) := by decide +kernel
theorem bo_160_75_1f1f88 : ∀ e ∈ ([(75, .iload_n 1, 76)] : List (Nat × Instr × Nat)), il_160.lookup e.1 = some e.2 := by decide +kernel
theorem li_160_76 : il_160.lookup 76 = some (.iaload, 77) := by decide +kernel
theorem bo_160_77_3949c1 : ∀ e ∈ ([(77, .imul, 78), (78, .aload_n 0, 79)] : List (Nat × Instr × Nat)), il_160.lookup e.1 = some e.2 := by decide +kernel
theorem li_160_79 : il_160.lookup 79 = some (.getfield 19, 82) := by decide +kernel
theorem bo_160_82_d3719d : ∀ e ∈ ([(82, .iload_n 1, 83)] : List (Nat × Instr × Nat)), il_160.lookup e.1 = some e.2 := by decide +kernel
theorem li_160_83 : il_160.lookup 83 = some (.iaload, 84) := by decide +kernel
theorem bo_160_84_8a7630 : ∀ e ∈ ([(84, .iadd, 85)] : List (Nat × Instr × Nat)), il_160.lookup e.1 = some e.2 := by decide +kernel
theorem li_160_85 : il_160.lookup 85 = some (.invokevirtual 294, 88) := by decide +kernel
theorem li_160_88 : il_160.lookup 88 = some (.return_, 89) := by decide +kernel
theorem bo_160_89_bbca9b : ∀ e ∈ ([(89, .aload_n 0, 90)] : List (Nat × Instr × Nat)), il_160.lookup e.1 = some e.2 := by decide +kernel
theorem li_160_90 : il_160.lookup 90 = some (.getfield 16, 93) := by decide +kernel
theorem bo_160_93_7021a1 : ∀ e ∈ ([(93, .iload_n 1, 94)] : List (Nat × Instr × Nat)), il_160.lookup e.1 = some e.2 := by decide +kernel
theorem li_160_94 : il_160.lookup 94 = some (.iaload, 95) := by decide +kernel
theorem li_160_95 : il_160.lookup 95 = some (.ifCond .ne 16, 98) := by decide +kernel
theorem bo_160_111_87438c : ∀ e ∈ ([(111, .aload_n 0, 112)] : List (Nat × Instr × Nat)), il_160.lookup e.1 = some e.2 := by decide +kernel
theorem li_160_112 : il_160.lookup 112 = some (.getfield 16, 115) := by decide +kernel
theorem bo_160_115_b9a51b : ∀ e ∈ ([(115, .iload_n 1, 116)] : List (Nat × Instr × Nat)), il_160.lookup e.1 = some e.2 := by decide +kernel
theorem li_160_116 : il_160.lookup 116 = some (.iaload, 117) := by decide +kernel
theorem bo_160_117_f55cfa : ∀ e ∈ ([(117, .iconst 1, 118)] : List (Nat × Instr × Nat)), il_160.lookup e.1 = some e.2 := by decide +kernel
theorem li_160_118 : il_160.lookup 118 = some (.if_icmp .ne 16, 121) := by decide +kernel
theorem bo_160_134_216a7f : ∀ e ∈ ([(134, .iload_n 3, 135), (135, .aload_n 0, 136)] : List (Nat × Instr × Nat)), il_160.lookup e.1 = some e.2 := by decide +kernel
theorem li_160_136 : il_160.lookup 136 = some (.getfield 19, 139) := by decide +kernel
theorem bo_160_139_a6de6c : ∀ e ∈ ([(139, .iload_n 1, 140)] : List (Nat × Instr × Nat)), il_160.lookup e.1 = some e.2 := by decide +kernel
theorem li_160_140 : il_160.lookup 140 = some (.iaload, 141) := by decide +kernel
theorem li_160_141 : il_160.lookup 141 = some (.if_icmp .le 9, 144) := by decide +kernel
theorem bo_160_121_74ff17 : ∀ e ∈ ([(121, .iload_n 3, 122), (122, .aload_n 0, 123)] : List (Nat × Instr × Nat)), il_160.lookup e.1 = some e.2 := by decide +kernel
theorem li_160_123 : il_160.lookup 123 = some (.getfield 19, 126) := by decide +kernel
theorem bo_160_126_5d1f94 : ∀ e ∈ ([(126, .iload_n 1, 127)] : List (Nat × Instr × Nat)), il_160.lookup e.1 = some e.2 := by decide +kernel
theorem li_160_127 : il_160.lookup 127 = some (.iaload, 128) := by decide +kernel
theorem li_160_128 : il_160.lookup 128 = some (.if_icmp .ne 22, 131) := by decide +kernel
theorem bo_160_131_fdd2ba : ∀ e ∈ ([(131, .goto 13, 134)] : List (Nat × Instr × Nat)), il_160.lookup e.1 = some e.2 := by decide +kernel
theorem bo_160_98_51a86b : ∀ e ∈ ([(98, .iload_n 3, 99), (99, .aload_n 0, 100)] : List (Nat × Instr × Nat)), il_160.lookup e.1 = some e.2 := by decide +kernel
theorem li_160_100 : il_160.lookup 100 = some (.getfield 19, 103) := by decide +kernel
theorem bo_160_103_98f00a : ∀ e ∈ ([(103, .iload_n 1, 104)] : List (Nat × Instr × Nat)), il_160.lookup e.1 = some e.2 := by decide +kernel
theorem li_160_104 : il_160.lookup 104 = some (.iaload, 105) := by decide +kernel
theorem li_160_105 : il_160.lookup 105 = some (.if_icmp .ge 45, 108) := by decide +kernel
theorem bo_160_108_99d569 : ∀ e ∈ ([(108, .goto 36, 111)] : List (Nat × Instr × Nat)), il_160.lookup e.1 = some e.2 := by decide +kernel
theorem bo_160_151_853622 : ∀ e ∈ ([(151, .aload_n 0, 152), (152, .iload_n 2, 153), (153, .aload_n 0, 154)] : List (Nat × Instr × Nat)), il_160.lookup e.1 = some e.2 := by decide +kernel
theorem li_160_154 : il_160.lookup 154 = some (.getfield 16, 157) := by decide +kernel
theorem bo_160_157_f223cb : ∀ e ∈ ([(157, .iload_n 1, 158)] : List (Nat × Instr × Nat)), il_160.lookup e.1 = some e.2 := by decide +kernel
theorem li_160_158 : il_160.lookup 158 = some (.iaload, 159) := by decide +kernel
theorem bo_160_159_677142 : ∀ e ∈ ([(159, .imul, 160), (160, .aload_n 0, 161)] : List (Nat × Instr × Nat)), il_160.lookup e.1 = some e.2 := by decide +kernel
theorem li_160_161 : il_160.lookup 161 = some (.getfield 19, 164) := by decide +kernel
theorem bo_160_164_360521 : ∀ e ∈ ([(164, .iload_n 1, 165)] : List (Nat × Instr × Nat)), il_160.lookup e.1 = some e.2 := by decide +kernel
theorem li_160_165 : il_160.lookup 165 = some (.iaload, 166) := by decide +kernel
theorem bo_160_166_78cd3a : ∀ e ∈ ([(166, .iadd, 167)] : List (Nat × Instr × Nat)), il_160.lookup e.1 = some e.2 := by decide +kernel
theorem li_160_167 : il_160.lookup 167 = some (.invokestatic 298, 170) := by decide +kernel
theorem bo_160_170_72150b : ∀ e ∈ ([(170, .iload_n 3, 171)] : List (Nat × Instr × Nat)), il_160.lookup e.1 = some e.2 := by decide +kernel
theorem li_160_171 : il_160.lookup 171 = some (.invokevirtual 294, 174) := by decide +kernel
theorem li_160_174 : il_160.lookup 174 = some (.return_, 175) := by decide +kernel
theorem bo_160_175_023fd3 : ∀ e ∈ ([(175, .iconst 0, 176), (176, .istore 9, 178)] : List (Nat × Instr × Nat)), il_160.lookup e.1 = some e.2 := by decide +kernel
theorem bo_160_275_a7b220 : ∀ e ∈ ([(275, .aload 5, 277), (277, .iload 7, 279), (279, .iload 8, 281)] : List (Nat × Instr × Nat)), il_160.lookup e.1 = some e.2 := by decide +kernel
theorem li_160_281 : il_160.lookup 281 = some (.ifCond .eq 13, 284) := by decide +kernel
theorem bo_160_294_da3898 : ∀ e ∈ ([(294, .iload_n 3, 295)] : List (Nat × Instr × Nat)), il_160.lookup e.1 = some e.2 := by decide +kernel
theorem bo_160_284_0556b4 : ∀ e ∈ ([(284, .aload 5, 286), (286, .iload 7, 288)] : List (Nat × Instr × Nat)), il_160.lookup e.1 = some e.2 := by decide +kernel
theorem li_160_288 : il_160.lookup 288 = some (.iaload, 289) := by decide +kernel
theorem bo_160_289_861876 : ∀ e ∈ ([(289, .iload_n 3, 290), (290, .iadd, 291), (291, .goto 4, 294)] : List (Nat × Instr × Nat)), il_160.lookup e.1 = some e.2 := by decide +kernel
theorem bo_160_205_65b258 : ∀ e ∈ ([(205, .iload 8, 207)] : List (Nat × Instr × Nat)), il_160.lookup e.1 = some e.2 := by decide +kernel
theorem li_160_207 : il_160.lookup 207 = some (.ifCond .eq 12, 210) := by decide +kernel
theorem bo_160_210_c3399c : ∀ e ∈ ([(210, .aload 5, 212), (212, .iload 7, 214)] : List (Nat × Instr × Nat)), il_160.lookup e.1 = some e.2 := by decide +kernel
theorem li_160_214 : il_160.lookup 214 = some (.iaload, 215) := by decide +kernel
theorem bo_160_215_b91724 : ∀ e ∈ ([(215, .iload_n 3, 216)] : List (Nat × Instr × Nat)), il_160.lookup e.1 = some e.2 := by decide +kernel
theorem li_160_216 : il_160.lookup 216 = some (.if_icmp .eq 9, 219) := by decide +kernel
theorem bo_160_240_12dbda : ∀ e ∈ ([(240, .iload 8, 242)] : List (Nat × Instr × Nat)), il_160.lookup e.1 = some e.2 := by decide +kernel
theorem li_160_242 : il_160.lookup 242 = some (.ifCond .eq 12, 245) := by decide +kernel
theorem bo_160_245_525fa8 : ∀ e ∈ ([(245, .iload_n 3, 246), (246, .aload 5, 248), (248, .iload 7, 250)] : List (Nat × Instr × Nat)), il_160.lookup e.1 = some e.2 := by decide +kernel
theorem li_160_250 : il_160.lookup 250 = some (.iaload, 251) := by decide +kernel
theorem li_160_251 : il_160.lookup 251 = some (.if_icmp .le 15, 254) := by decide +kernel
theorem bo_161_33_365621 : ∀ e ∈ ([(33, .iload 6, 35), (35, .aload_n 0, 36)] : List (Nat × Instr × Nat)), il_161.lookup e.1 = some e.2 := by decide +kernel
theorem li_161_36 : il_161.lookup 36 = some (.getfield 291, 39) := by decide +kernel
theorem li_161_39 : il_161.lookup 39 = some (.if_icmp .ge 31, 42) := by decide +kernel
theorem bo_161_70_c6678a : ∀ e ∈ ([(70, .iload_n 1, 71), (71, .aload_n 0, 72)] : List (Nat × Instr × Nat)), il_161.lookup e.1 = some e.2 := by decide +kernel
theorem li_161_72 : il_161.lookup 72 = some (.invokevirtual 199, 75) := by decide +kernel
theorem li_161_75 : il_161.lookup 75 = some (.if_icmp .ge 4, 78) := by decide +kernel
theorem bo_161_79_febf86 : ∀ e ∈ ([(79, .aload_n 0, 80)] : List (Nat × Instr × Nat)), il_161.lookup e.1 = some e.2 := by decide +kernel
theorem li_161_80 : il_161.lookup 80 = some (.getfield 148, 83) := by decide +kernel
theorem bo_161_83_dbc641 : ∀ e ∈ ([(83, .aload_n 0, 84)] : List (Nat × Instr × Nat)), il_161.lookup e.1 = some e.2 := by decide +kernel
theorem li_161_84 : il_161.lookup 84 = some (.getfield 243, 87) := by decide +kernel
theorem bo_161_87_049c89 : ∀ e ∈ ([(87, .iconst 1, 88), (88, .isub, 89), (89, .iload 5, 91), (91, .isub, 92), (92, .dup2, 93)] : List (Nat × Instr × Nat)), il_161.lookup e.1 = some e.2 := by decide +kernel
theorem li_161_93 : il_161.lookup 93 = some (.iaload, 94) := by decide +kernel
theorem bo_161_94_77bae3 : ∀ e ∈ ([(94, .iconst 1, 95), (95, .iadd, 96)] : List (Nat × Instr × Nat)), il_161.lookup e.1 = some e.2 := by decide +kernel
theorem li_161_96 : il_161.lookup 96 = some (.iastore, 97) := by decide +kernel
theorem bo_161_97_64a721 : ∀ e ∈ ([(97, .aload_n 0, 98), (98, .dup, 99)] : List (Nat × Instr × Nat)), il_161.lookup e.1 = some e.2 := by decide +kernel
theorem li_161_99 : il_161.lookup 99 = some (.getfield 246, 102) := by decide +kernel
theorem bo_161_102_036f47 : ∀ e ∈ ([(102, .iconst 1, 103), (103, .iadd, 104)] : List (Nat × Instr × Nat)), il_161.lookup e.1 = some e.2 := by decide +kernel
theorem li_161_104 : il_161.lookup 104 = some (.putfield 246, 107) := by decide +kernel
theorem bo_161_107_68dab3 : ∀ e ∈ ([(107, .aload_n 0, 108), (108, .dup, 109)] : List (Nat × Instr × Nat)), il_161.lookup e.1 = some e.2 := by decide +kernel
theorem li_161_109 : il_161.lookup 109 = some (.getfield 249, 112) := by decide +kernel
theorem bo_161_112_a01649 : ∀ e ∈ ([(112, .aload_n 0, 113)] : List (Nat × Instr × Nat)), il_161.lookup e.1 = some e.2 := by decide +kernel
theorem li_161_113 : il_161.lookup 113 = some (.getfield 243, 116) := by decide +kernel
theorem bo_161_116_3fb2d9 : ∀ e ∈ ([(116, .iconst 1, 117), (117, .isub, 118), (118, .iload 5, 120), (120, .isub, 121), (121, .i2l, 122), (122, .ladd, 123)] : List (Nat × Instr × Nat)), il_161.lookup e.1 = some e.2 := by decide +kernel
theorem li_161_123 : il_161.lookup 123 = some (.putfield 249, 126) := by decide +kernel
theorem li_161_126 : il_161.lookup 126 = some (.return_, 127) := by decide +kernel
theorem li_161_78 : il_161.lookup 78 = some (.return_, 79) := by decide +kernel
theorem bo_161_42_cbdb6b : ∀ e ∈ ([(42, .aload_n 0, 43), (43, .iload_n 1, 44), (44, .iload_n 2, 45), (45, .aload_n 0, 46)] : List (Nat × Instr × Nat)), il_161.lookup e.1 = some e.2 := by decide +kernel
theorem li_161_46 : il_161.lookup 46 = some (.getfield 163, 49) := by decide +kernel
theorem bo_161_49_e052b7 : ∀ e ∈ ([(49, .iload 6, 51)] : List (Nat × Instr × Nat)), il_161.lookup e.1 = some e.2 := by decide +kernel
theorem li_161_51 : il_161.lookup 51 = some (.iaload, 52) := by decide +kernel
theorem bo_161_52_118d3f : ∀ e ∈ ([(52, .aload_n 0, 53)] : List (Nat × Instr × Nat)), il_161.lookup e.1 = some e.2 := by decide +kernel
theorem li_161_53 : il_161.lookup 53 = some (.getfield 166, 56) := by decide +kernel
theorem bo_161_56_350148 : ∀ e ∈ ([(56, .iload 6, 58)] : List (Nat × Instr × Nat)), il_161.lookup e.1 = some e.2 := by decide +kernel
theorem li_161_58 : il_161.lookup 58 = some (.iaload, 59) := by decide +kernel
theorem bo_161_59_8c3b95 : ∀ e ∈ ([(59, .iload 5, 61)] : List (Nat × Instr × Nat)), il_161.lookup e.1 = some e.2 := by decide +kernel
theorem li_161_61 : il_161.lookup 61 = some (.invokevirtual 305, 64) := by decide +kernel
theorem bo_161_64_f60358 : ∀ e ∈ ([(64, .iinc 6 1, 67), (67, .goto (-34), 70)] : List (Nat × Instr × Nat)), il_161.lookup e.1 = some e.2 := by decide +kernel
theorem bo_161_0_8d5162 : ∀ e ∈ ([(0, .aload_n 0, 1)] : List (Nat × Instr × Nat)), il_161.lookup e.1 = some e.2 := by decide +kernel
theorem li_161_1 : il_161.lookup 1 = some (.getfield 44, 4) := by decide +kernel
theorem bo_161_4_40e659 : ∀ e ∈ ([(4, .iload_n 1, 5), (5, .dup2, 6)] : List (Nat × Instr × Nat)), il_161.lookup e.1 = some e.2 := by decide +kernel
theorem li_161_6 : il_161.lookup 6 = some (.iaload, 7) := by decide +kernel
theorem bo_161_7_7eef78 : ∀ e ∈ ([(7, .iconst 1, 8), (8, .iadd, 9)] : List (Nat × Instr × Nat)), il_161.lookup e.1 = some e.2 := by decide +kernel
theorem li_161_9 : il_161.lookup 9 = some (.iastore, 10) := by decide +kernel
theorem bo_161_10_c33b91 : ∀ e ∈ ([(10, .aload_n 0, 11), (11, .iload_n 1, 12), (12, .iload_n 3, 13), (13, .iload 4, 15), (15, .aload_n 0, 16)] : List (Nat × Instr × Nat)), il_161.lookup e.1 = some e.2 := by decide +kernel
theorem li_161_16 : il_161.lookup 16 = some (.getfield 56, 19) := by decide +kernel
theorem bo_161_19_1a8444 : ∀ e ∈ ([(19, .aload_n 0, 20)] : List (Nat × Instr × Nat)), il_161.lookup e.1 = some e.2 := by decide +kernel
theorem li_161_20 : il_161.lookup 20 = some (.getfield 66, 23) := by decide +kernel
theorem bo_161_23_b37e12 : ∀ e ∈ ([(23, .aload_n 0, 24)] : List (Nat × Instr × Nat)), il_161.lookup e.1 = some e.2 := by decide +kernel
theorem li_161_24 : il_161.lookup 24 = some (.getfield 75, 27) := by decide +kernel
theorem li_161_27 : il_161.lookup 27 = some (.invokevirtual 301, 30) := by decide +kernel
theorem bo_161_30_e4fc54 : ∀ e ∈ ([(30, .iconst 0, 31), (31, .istore 6, 33)] : List (Nat × Instr × Nat)), il_161.lookup e.1 = some e.2 := by decide +kernel
theorem bo_162_237_a4c5c4 : ∀ e ∈ ([(237, .aload_n 0, 238), (238, .iload_n 1, 239), (239, .iload_n 2, 240), (240, .iload 5, 242), (242, .iload 6, 244), (244, .iload 7, 246)] : List (Nat × Instr × Nat)), il_162.lookup e.1 = some e.2 := by decide +kernel
theorem li_162_246 : il_162.lookup 246 = some (.invokevirtual 338, 249) := by decide +kernel
theorem bo_162_249_aeae84 : ∀ e ∈ ([(249, .iconst 1, 250)] : List (Nat × Instr × Nat)), il_162.lookup e.1 = some e.2 := by decide +kernel
theorem li_162_250 : il_162.lookup 250 = some (.ireturn, 251) := by decide +kernel
theorem bo_162_0_8d5162 : ∀ e ∈ ([(0, .iload_n 1, 1)] : List (Nat × Instr × Nat)), il_162.lookup e.1 = some e.2 := by decide +kernel
theorem li_162_1 : il_162.lookup 1 = some (.ifCond .ne 68, 4) := by decide +kernel
theorem bo_162_69_af1a83 : ∀ e ∈ ([(69, .aload_n 0, 70), (70, .iload_n 1, 71), (71, .iload_n 2, 72)] : List (Nat × Instr × Nat)), il_162.lookup e.1 = some e.2 := by decide +kernel
theorem li_162_72 : il_162.lookup 72 = some (.invokevirtual 328, 75) := by decide +kernel
theorem bo_162_75_c3e58c : ∀ e ∈ ([(75, .istore_n 3, 76), (76, .iload_n 3, 77)] : List (Nat × Instr × Nat)), il_162.lookup e.1 = some e.2 := by decide +kernel
theorem li_162_77 : il_162.lookup 77 = some (.ifCond .ge 5, 80) := by decide +kernel
theorem bo_162_82_d3719d : ∀ e ∈ ([(82, .aload_n 0, 83)] : List (Nat × Instr × Nat)), il_162.lookup e.1 = some e.2 := by decide +kernel
theorem li_162_83 : il_162.lookup 83 = some (.getfield 108, 86) := by decide +kernel
theorem bo_162_86_c832c7 : ∀ e ∈ ([(86, .iload_n 1, 87), (87, .iload_n 2, 88)] : List (Nat × Instr × Nat)), il_162.lookup e.1 = some e.2 := by decide +kernel
theorem li_162_88 : il_162.lookup 88 = some (.invokestatic 288, 91) := by decide +kernel
theorem bo_162_91_e01035 : ∀ e ∈ ([(91, .iload_n 3, 92), (92, .iconst 1, 93), (93, .iadd, 94), (94, .aload_n 0, 95)] : List (Nat × Instr × Nat)), il_162.lookup e.1 = some e.2 := by decide +kernel
theorem li_162_95 : il_162.lookup 95 = some (.getfield 22, 98) := by decide +kernel
theorem bo_162_98_15ca2f : ∀ e ∈ ([(98, .iload_n 1, 99), (99, .iconst 1, 100), (100, .isub, 101)] : List (Nat × Instr × Nat)), il_162.lookup e.1 = some e.2 := by decide +kernel
theorem li_162_101 : il_162.lookup 101 = some (.iaload, 102) := by decide +kernel
theorem li_162_102 : il_162.lookup 102 = some (.irem, 103) := by decide +kernel
theorem li_162_103 : il_162.lookup 103 = some (.iastore, 104) := by decide +kernel
theorem bo_162_104_d8b30f : ∀ e ∈ ([(104, .iload_n 1, 105), (105, .iconst 1, 106), (106, .isub, 107), (107, .iload_n 3, 108), (108, .iload_n 2, 109)] : List (Nat × Instr × Nat)), il_162.lookup e.1 = some e.2 := by decide +kernel
theorem li_162_109 : il_162.lookup 109 = some (.invokestatic 324, 112) := by decide +kernel
theorem bo_162_112_a136ae : ∀ e ∈ ([(112, .istore 4, 114), (114, .aload_n 0, 115)] : List (Nat × Instr × Nat)), il_162.lookup e.1 = some e.2 := by decide +kernel
theorem li_162_115 : il_162.lookup 115 = some (.getfield 135, 118) := by decide +kernel
theorem bo_162_118_7958c0 : ∀ e ∈ ([(118, .iconst 4, 119), (119, .iload 4, 121), (121, .imul, 122)] : List (Nat × Instr × Nat)), il_162.lookup e.1 = some e.2 := by decide +kernel
theorem li_162_122 : il_162.lookup 122 = some (.iaload, 123) := by decide +kernel
theorem li_162_123 : il_162.lookup 123 = some (.ifCond .ge 18, 126) := by decide +kernel
theorem bo_162_141_b0c808 : ∀ e ∈ ([(141, .aload_n 0, 142)] : List (Nat × Instr × Nat)), il_162.lookup e.1 = some e.2 := by decide +kernel
theorem li_162_142 : il_162.lookup 142 = some (.getfield 138, 145) := by decide +kernel
theorem bo_162_145_fe367e : ∀ e ∈ ([(145, .bipush 16, 147), (147, .iload 4, 149), (149, .imul, 150), (150, .aload_n 0, 151)] : List (Nat × Instr × Nat)), il_162.lookup e.1 = some e.2 := by decide +kernel
theorem li_162_151 : il_162.lookup 151 = some (.getfield 132, 154) := by decide +kernel
theorem bo_162_154_d0883f : ∀ e ∈ ([(154, .iload 4, 156)] : List (Nat × Instr × Nat)), il_162.lookup e.1 = some e.2 := by decide +kernel
theorem li_162_156 : il_162.lookup 156 = some (.iaload, 157) := by decide +kernel
theorem bo_162_157_f223cb : ∀ e ∈ ([(157, .iadd, 158)] : List (Nat × Instr × Nat)), il_162.lookup e.1 = some e.2 := by decide +kernel
theorem li_162_158 : il_162.lookup 158 = some (.iaload, 159) := by decide +kernel
theorem bo_162_159_80ff86 : ∀ e ∈ ([(159, .istore 5, 161), (161, .aload_n 0, 162)] : List (Nat × Instr × Nat)), il_162.lookup e.1 = some e.2 := by decide +kernel
theorem li_162_162 : il_162.lookup 162 = some (.getfield 141, 165) := by decide +kernel
theorem bo_162_165_4579e0 : ∀ e ∈ ([(165, .bipush 16, 167), (167, .iload 4, 169), (169, .imul, 170), (170, .aload_n 0, 171)] : List (Nat × Instr × Nat)), il_162.lookup e.1 = some e.2 := by decide +kernel
theorem li_162_171 : il_162.lookup 171 = some (.getfield 132, 174) := by decide +kernel
theorem bo_162_174_413a52 : ∀ e ∈ ([(174, .iload 4, 176)] : List (Nat × Instr × Nat)), il_162.lookup e.1 = some e.2 := by decide +kernel
theorem li_162_176 : il_162.lookup 176 = some (.iaload, 177) := by decide +kernel
theorem bo_162_177_ee2102 : ∀ e ∈ ([(177, .iadd, 178)] : List (Nat × Instr × Nat)), il_162.lookup e.1 = some e.2 := by decide +kernel
theorem li_162_178 : il_162.lookup 178 = some (.iaload, 179) := by decide +kernel
theorem bo_162_179_66cd18 : ∀ e ∈ ([(179, .istore 6, 181), (181, .aload_n 0, 182)] : List (Nat × Instr × Nat)), il_162.lookup e.1 = some e.2 := by decide +kernel
theorem li_162_182 : il_162.lookup 182 = some (.getfield 144, 185) := by decide +kernel
theorem bo_162_185_a174f8 : ∀ e ∈ ([(185, .bipush 16, 187), (187, .iload 4, 189), (189, .imul, 190), (190, .aload_n 0, 191)] : List (Nat × Instr × Nat)), il_162.lookup e.1 = some e.2 := by decide +kernel
theorem li_162_191 : il_162.lookup 191 = some (.getfield 132, 194) := by decide +kernel
theorem bo_162_194_f156ea : ∀ e ∈ ([(194, .iload 4, 196)] : List (Nat × Instr × Nat)), il_162.lookup e.1 = some e.2 := by decide +kernel
theorem li_162_196 : il_162.lookup 196 = some (.iaload, 197) := by decide +kernel
theorem bo_162_197_f35caa : ∀ e ∈ ([(197, .iadd, 198)] : List (Nat × Instr × Nat)), il_162.lookup e.1 = some e.2 := by decide +kernel
theorem li_162_198 : il_162.lookup 198 = some (.iaload, 199) := by decide +kernel
theorem bo_162_199_593009 : ∀ e ∈ ([(199, .istore 7, 201), (201, .aload_n 0, 202)] : List (Nat × Instr × Nat)), il_162.lookup e.1 = some e.2 := by decide +kernel
theorem li_162_202 : il_162.lookup 202 = some (.getfield 132, 205) := by decide +kernel
theorem bo_162_205_0d7012 : ∀ e ∈ ([(205, .iload 4, 207), (207, .dup2, 208)] : List (Nat × Instr × Nat)), il_162.lookup e.1 = some e.2 := by decide +kernel
theorem li_162_208 : il_162.lookup 208 = some (.iaload, 209) := by decide +kernel
theorem bo_162_209_0cdd1d : ∀ e ∈ ([(209, .iconst 1, 210), (210, .iadd, 211)] : List (Nat × Instr × Nat)), il_162.lookup e.1 = some e.2 := by decide +kernel
theorem li_162_211 : il_162.lookup 211 = some (.iastore, 212) := by decide +kernel
theorem bo_162_212_feaae7 : ∀ e ∈ ([(212, .aload_n 0, 213)] : List (Nat × Instr × Nat)), il_162.lookup e.1 = some e.2 := by decide +kernel
theorem li_162_213 : il_162.lookup 213 = some (.getfield 132, 216) := by decide +kernel
theorem bo_162_216_2cd73c : ∀ e ∈ ([(216, .iload 4, 218)] : List (Nat × Instr × Nat)), il_162.lookup e.1 = some e.2 := by decide +kernel
theorem li_162_218 : il_162.lookup 218 = some (.iaload, 219) := by decide +kernel
theorem bo_162_219_d10ead : ∀ e ∈ ([(219, .aload_n 0, 220)] : List (Nat × Instr × Nat)), il_162.lookup e.1 = some e.2 := by decide +kernel
theorem li_162_220 : il_162.lookup 220 = some (.getfield 135, 223) := by decide +kernel
theorem bo_162_223_35d780 : ∀ e ∈ ([(223, .iconst 4, 224), (224, .iload 4, 226), (226, .imul, 227)] : List (Nat × Instr × Nat)), il_162.lookup e.1 = some e.2 := by decide +kernel
theorem li_162_227 : il_162.lookup 227 = some (.iaload, 228) := by decide +kernel
theorem li_162_228 : il_162.lookup 228 = some (.if_icmp .ne 9, 231) := by decide +kernel
theorem bo_162_231_7599af : ∀ e ∈ ([(231, .aload_n 0, 232), (232, .iload 4, 234)] : List (Nat × Instr × Nat)), il_162.lookup e.1 = some e.2 := by decide +kernel
theorem li_162_234 : il_162.lookup 234 = some (.invokevirtual 331, 237) := by decide +kernel
theorem bo_162_126_66327d : ∀ e ∈ ([(126, .aload_n 0, 127), (127, .iload 4, 129)] : List (Nat × Instr × Nat)), il_162.lookup e.1 = some e.2 := by decide +kernel
theorem li_162_129 : il_162.lookup 129 = some (.invokevirtual 331, 132) := by decide +kernel
theorem bo_162_132_9a1605 : ∀ e ∈ ([(132, .aload_n 0, 133), (133, .iload_n 1, 134), (134, .iload_n 2, 135), (135, .iload_n 3, 136)] : List (Nat × Instr × Nat)), il_162.lookup e.1 = some e.2 := by decide +kernel
theorem li_162_136 : il_162.lookup 136 = some (.invokevirtual 334, 139) := by decide +kernel
theorem bo_162_139_a6de6c : ∀ e ∈ ([(139, .iconst 1, 140)] : List (Nat × Instr × Nat)), il_162.lookup e.1 = some e.2 := by decide +kernel
theorem li_162_140 : il_162.lookup 140 = some (.ireturn, 141) := by decide +kernel
theorem bo_162_80_1d0e60 : ∀ e ∈ ([(80, .iconst 0, 81)] : List (Nat × Instr × Nat)), il_162.lookup e.1 = some e.2 := by decide +kernel
theorem li_162_81 : il_162.lookup 81 = some (.ireturn, 82) := by decide +kernel
theorem bo_162_4_e962e2 : ∀ e ∈ ([(4, .aload_n 0, 5)] : List (Nat × Instr × Nat)), il_162.lookup e.1 = some e.2 := by decide +kernel
theorem li_162_5 : il_162.lookup 5 = some (.getfield 271, 8) := by decide +kernel
theorem bo_162_8_383530 : ∀ e ∈ ([(8, .aload_n 0, 9)] : List (Nat × Instr × Nat)), il_162.lookup e.1 = some e.2 := by decide +kernel
theorem li_162_9 : il_162.lookup 9 = some (.getfield 275, 12) := by decide +kernel
theorem li_162_12 : il_162.lookup 12 = some (.if_icmp .ne 5, 15) := by decide +kernel
theorem bo_162_17_509256 : ∀ e ∈ ([(17, .aload_n 0, 18)] : List (Nat × Instr × Nat)), il_162.lookup e.1 = some e.2 := by decide +kernel
theorem li_162_18 : il_162.lookup 18 = some (.getfield 44, 21) := by decide +kernel
theorem bo_162_21_13696e : ∀ e ∈ ([(21, .iconst 0, 22), (22, .dup2, 23)] : List (Nat × Instr × Nat)), il_162.lookup e.1 = some e.2 := by decide +kernel
theorem li_162_23 : il_162.lookup 23 = some (.iaload, 24) := by decide +kernel
theorem bo_162_24_35ae4e : ∀ e ∈ ([(24, .iconst 1, 25), (25, .iadd, 26)] : List (Nat × Instr × Nat)), il_162.lookup e.1 = some e.2 := by decide +kernel
theorem li_162_26 : il_162.lookup 26 = some (.iastore, 27) := by decide +kernel
theorem bo_162_27_79b240 : ∀ e ∈ ([(27, .aload_n 0, 28), (28, .iconst 0, 29), (29, .iconst 0, 30), (30, .aload_n 0, 31)] : List (Nat × Instr × Nat)), il_162.lookup e.1 = some e.2 := by decide +kernel
theorem li_162_31 : il_162.lookup 31 = some (.getfield 38, 34) := by decide +kernel
theorem bo_162_34_130638 : ∀ e ∈ ([(34, .aload_n 0, 35)] : List (Nat × Instr × Nat)), il_162.lookup e.1 = some e.2 := by decide +kernel
theorem li_162_35 : il_162.lookup 35 = some (.getfield 271, 38) := by decide +kernel
theorem li_162_38 : il_162.lookup 38 = some (.iaload, 39) := by decide +kernel
theorem bo_162_39_4dcc25 : ∀ e ∈ ([(39, .aload_n 0, 40)] : List (Nat × Instr × Nat)), il_162.lookup e.1 = some e.2 := by decide +kernel
theorem li_162_40 : il_162.lookup 40 = some (.getfield 41, 43) := by decide +kernel
theorem bo_162_43_d85b47 : ∀ e ∈ ([(43, .aload_n 0, 44)] : List (Nat × Instr × Nat)), il_162.lookup e.1 = some e.2 := by decide +kernel
theorem li_162_44 : il_162.lookup 44 = some (.getfield 271, 47) := by decide +kernel
theorem li_162_47 : il_162.lookup 47 = some (.iaload, 48) := by decide +kernel
theorem bo_162_48_04c55a : ∀ e ∈ ([(48, .aload_n 0, 49)] : List (Nat × Instr × Nat)), il_162.lookup e.1 = some e.2 := by decide +kernel
theorem li_162_49 : il_162.lookup 49 = some (.getfield 243, 52) := by decide +kernel
theorem bo_162_52_9f6391 : ∀ e ∈ ([(52, .iconst 1, 53), (53, .isub, 54)] : List (Nat × Instr × Nat)), il_162.lookup e.1 = some e.2 := by decide +kernel
theorem li_162_54 : il_162.lookup 54 = some (.invokevirtual 305, 57) := by decide +kernel
theorem bo_162_57_1292c4 : ∀ e ∈ ([(57, .aload_n 0, 58), (58, .dup, 59)] : List (Nat × Instr × Nat)), il_162.lookup e.1 = some e.2 := by decide +kernel
theorem li_162_59 : il_162.lookup 59 = some (.getfield 271, 62) := by decide +kernel
theorem bo_162_62_322124 : ∀ e ∈ ([(62, .iconst 1, 63), (63, .iadd, 64)] : List (Nat × Instr × Nat)), il_162.lookup e.1 = some e.2 := by decide +kernel
theorem li_162_64 : il_162.lookup 64 = some (.putfield 271, 67) := by decide +kernel
theorem bo_162_67_ded3a4 : ∀ e ∈ ([(67, .iconst 1, 68)] : List (Nat × Instr × Nat)), il_162.lookup e.1 = some e.2 := by decide +kernel
theorem li_162_68 : il_162.lookup 68 = some (.ireturn, 69) := by decide +kernel
theorem bo_162_15_be4250 : ∀ e ∈ ([(15, .iconst 0, 16)] : List (Nat × Instr × Nat)), il_162.lookup e.1 = some e.2 := by decide +kernel
theorem li_162_16 : il_162.lookup 16 = some (.ireturn, 17) := by decide +kernel
theorem bo_163_87_140246 : ∀ e ∈ ([(87, .iinc 3 (-1), 90), (90, .goto (-82), 93)] : List (Nat × Instr × Nat)), il_163.lookup e.1 = some e.2 := by decide +kernel
theorem bo_163_35_500a16 : ∀ e ∈ ([(35, .istore 4, 37), (37, .iload 4, 39)] : List (Nat × Instr × Nat)), il_163.lookup e.1 = some e.2 := by decide +kernel
theorem li_163_39 : il_163.lookup 39 = some (.ifCond .ne 16, 42) := by decide +kernel
theorem bo_163_55_bd1207 : ∀ e ∈ ([(55, .iload_n 3, 56)] : List (Nat × Instr × Nat)), il_163.lookup e.1 = some e.2 := by decide +kernel
theorem li_163_56 : il_163.lookup 56 = some (.ifCond .ne 9, 59) := by decide +kernel
theorem bo_163_65_b551c5 : ∀ e ∈ ([(65, .aload_n 0, 66), (66, .iload_n 1, 67), (67, .iload_n 2, 68)] : List (Nat × Instr × Nat)), il_163.lookup e.1 = some e.2 := by decide +kernel
theorem li_163_68 : il_163.lookup 68 = some (.invokevirtual 364, 71) := by decide +kernel
theorem li_163_71 : il_163.lookup 71 = some (.ifCond .ne 16, 74) := by decide +kernel
theorem bo_163_74_ac6591 : ∀ e ∈ ([(74, .aload_n 0, 75)] : List (Nat × Instr × Nat)), il_163.lookup e.1 = some e.2 := by decide +kernel
theorem li_163_75 : il_163.lookup 75 = some (.getfield 53, 78) := by decide +kernel
theorem bo_163_78_32a02f : ∀ e ∈ ([(78, .iload_n 1, 79), (79, .dup2, 80)] : List (Nat × Instr × Nat)), il_163.lookup e.1 = some e.2 := by decide +kernel
theorem li_163_80 : il_163.lookup 80 = some (.iaload, 81) := by decide +kernel
theorem bo_163_81_747218 : ∀ e ∈ ([(81, .iconst 1, 82), (82, .iadd, 83)] : List (Nat × Instr × Nat)), il_163.lookup e.1 = some e.2 := by decide +kernel
theorem li_163_83 : il_163.lookup 83 = some (.iastore, 84) := by decide +kernel
theorem bo_163_84_fc726c : ∀ e ∈ ([(84, .iconst 0, 85), (85, .istore 4, 87)] : List (Nat × Instr × Nat)), il_163.lookup e.1 = some e.2 := by decide +kernel
theorem bo_163_59_e1a4dd : ∀ e ∈ ([(59, .iconst 0, 60), (60, .istore 4, 62), (62, .goto 25, 65)] : List (Nat × Instr × Nat)), il_163.lookup e.1 = some e.2 := by decide +kernel
theorem bo_163_42_b358e7 : ∀ e ∈ ([(42, .aload_n 0, 43)] : List (Nat × Instr × Nat)), il_163.lookup e.1 = some e.2 := by decide +kernel
theorem li_163_43 : il_163.lookup 43 = some (.getfield 50, 46) := by decide +kernel
theorem bo_163_46_341f4e : ∀ e ∈ ([(46, .iload_n 1, 47), (47, .dup2, 48)] : List (Nat × Instr × Nat)), il_163.lookup e.1 = some e.2 := by decide +kernel
theorem li_163_48 : il_163.lookup 48 = some (.iaload, 49) := by decide +kernel
theorem bo_163_49_23be2b : ∀ e ∈ ([(49, .iconst 1, 50), (50, .iadd, 51)] : List (Nat × Instr × Nat)), il_163.lookup e.1 = some e.2 := by decide +kernel
theorem li_163_51 : il_163.lookup 51 = some (.iastore, 52) := by decide +kernel
theorem bo_163_52_118d3f : ∀ e ∈ ([(52, .goto 35, 55)] : List (Nat × Instr × Nat)), il_163.lookup e.1 = some e.2 := by decide +kernel
theorem bo_163_30_e4fc54 : ∀ e ∈ ([(30, .iconst 1, 31), (31, .goto 4, 34)] : List (Nat × Instr × Nat)), il_163.lookup e.1 = some e.2 := by decide +kernel
theorem bo_163_8_383530 : ∀ e ∈ ([(8, .iload 4, 10)] : List (Nat × Instr × Nat)), il_163.lookup e.1 = some e.2 := by decide +kernel
theorem li_163_10 : il_163.lookup 10 = some (.ifCond .eq 83, 13) := by decide +kernel
theorem li_163_93 : il_163.lookup 93 = some (.return_, 94) := by decide +kernel
theorem bo_163_13_1f05a9 : ∀ e ∈ ([(13, .iload_n 1, 14), (14, .aload_n 0, 15)] : List (Nat × Instr × Nat)), il_163.lookup e.1 = some e.2 := by decide +kernel
theorem li_163_15 : il_163.lookup 15 = some (.invokevirtual 199, 18) := by decide +kernel
theorem li_163_18 : il_163.lookup 18 = some (.if_icmp .eq 12, 21) := by decide +kernel
theorem bo_163_21_cd309e : ∀ e ∈ ([(21, .aload_n 0, 22), (22, .iload_n 1, 23), (23, .iload_n 2, 24)] : List (Nat × Instr × Nat)), il_163.lookup e.1 = some e.2 := by decide +kernel
theorem li_163_24 : il_163.lookup 24 = some (.invokevirtual 360, 27) := by decide +kernel
theorem li_163_27 : il_163.lookup 27 = some (.ifCond .eq 7, 30) := by decide +kernel
theorem bo_163_34_130638 : ∀ e ∈ ([(34, .iconst 0, 35)] : List (Nat × Instr × Nat)), il_163.lookup e.1 = some e.2 := by decide +kernel
theorem bo_163_0_8d5162 : ∀ e ∈ ([(0, .aload_n 0, 1)] : List (Nat × Instr × Nat)), il_163.lookup e.1 = some e.2 := by decide +kernel
theorem li_163_1 : il_163.lookup 1 = some (.getfield 35, 4) := by decide +kernel
theorem bo_163_4_607491 : ∀ e ∈ ([(4, .istore_n 3, 5), (5, .iconst 1, 6), (6, .istore 4, 8)] : List (Nat × Instr × Nat)), il_163.lookup e.1 = some e.2 := by decide +kernel
theorem bo_164_76_9beeb3 : ∀ e ∈ ([(76, .iinc 1 1, 79), (79, .goto (-62), 82)] : List (Nat × Instr × Nat)), il_164.lookup e.1 = some e.2 := by decide +kernel
theorem bo_164_93_aa3b03 : ∀ e ∈ ([(93, .iload_n 2, 94), (94, .aload_n 0, 95)] : List (Nat × Instr × Nat)), il_164.lookup e.1 = some e.2 := by decide +kernel
theorem li_164_95 : il_164.lookup 95 = some (.getfield 22, 98) := by decide +kernel
theorem bo_164_98_9ec1f3 : ∀ e ∈ ([(98, .iload_n 1, 99)] : List (Nat × Instr × Nat)), il_164.lookup e.1 = some e.2 := by decide +kernel
theorem li_164_99 : il_164.lookup 99 = some (.iaload, 100) := by decide +kernel
theorem li_164_100 : il_164.lookup 100 = some (.if_icmp .ge 15, 103) := by decide +kernel
theorem bo_164_115_37ea46 : ∀ e ∈ ([(115, .iinc 1 (-1), 118), (118, .goto (-31), 121)] : List (Nat × Instr × Nat)), il_164.lookup e.1 = some e.2 := by decide +kernel
theorem bo_164_103_eba182 : ∀ e ∈ ([(103, .aload_n 0, 104), (104, .iload_n 1, 105), (105, .iload_n 2, 106)] : List (Nat × Instr × Nat)), il_164.lookup e.1 = some e.2 := by decide +kernel
theorem li_164_106 : il_164.lookup 106 = some (.invokevirtual 367, 109) := by decide +kernel
theorem bo_164_109_602ba6 : ∀ e ∈ ([(109, .iinc 2 1, 112), (112, .goto (-19), 115)] : List (Nat × Instr × Nat)), il_164.lookup e.1 = some e.2 := by decide +kernel
theorem bo_164_87_816bca : ∀ e ∈ ([(87, .iload_n 1, 88)] : List (Nat × Instr × Nat)), il_164.lookup e.1 = some e.2 := by decide +kernel
theorem li_164_88 : il_164.lookup 88 = some (.ifCond .lt 33, 91) := by decide +kernel
theorem li_164_121 : il_164.lookup 121 = some (.return_, 122) := by decide +kernel
theorem bo_164_91_e197d6 : ∀ e ∈ ([(91, .iconst 0, 92), (92, .istore_n 2, 93)] : List (Nat × Instr × Nat)), il_164.lookup e.1 = some e.2 := by decide +kernel
theorem bo_164_17_03196b : ∀ e ∈ ([(17, .iload_n 1, 18), (18, .bipush 54, 20)] : List (Nat × Instr × Nat)), il_164.lookup e.1 = some e.2 := by decide +kernel
theorem li_164_20 : il_164.lookup 20 = some (.if_icmp .ge 62, 23) := by decide +kernel
theorem bo_164_82_d3719d : ∀ e ∈ ([(82, .aload_n 0, 83)] : List (Nat × Instr × Nat)), il_164.lookup e.1 = some e.2 := by decide +kernel
theorem li_164_83 : il_164.lookup 83 = some (.invokevirtual 199, 86) := by decide +kernel
theorem bo_164_86_bff005 : ∀ e ∈ ([(86, .istore_n 1, 87)] : List (Nat × Instr × Nat)), il_164.lookup e.1 = some e.2 := by decide +kernel
theorem bo_164_23_b37e12 : ∀ e ∈ ([(23, .aload_n 0, 24)] : List (Nat × Instr × Nat)), il_164.lookup e.1 = some e.2 := by decide +kernel
theorem li_164_24 : il_164.lookup 24 = some (.getfield 114, 27) := by decide +kernel
theorem bo_164_27_58fada : ∀ e ∈ ([(27, .iload_n 1, 28)] : List (Nat × Instr × Nat)), il_164.lookup e.1 = some e.2 := by decide +kernel
theorem li_164_28 : il_164.lookup 28 = some (.iaload, 29) := by decide +kernel
theorem li_164_29 : il_164.lookup 29 = some (.ifCond .ne 6, 32) := by decide +kernel
theorem bo_164_35_a976ef : ∀ e ∈ ([(35, .aload_n 0, 36)] : List (Nat × Instr × Nat)), il_164.lookup e.1 = some e.2 := by decide +kernel
theorem li_164_36 : il_164.lookup 36 = some (.getfield 117, 39) := by decide +kernel
theorem bo_164_39_9c41c6 : ∀ e ∈ ([(39, .iload_n 1, 40), (40, .dup2, 41)] : List (Nat × Instr × Nat)), il_164.lookup e.1 = some e.2 := by decide +kernel
theorem li_164_41 : il_164.lookup 41 = some (.iaload, 42) := by decide +kernel
theorem bo_164_42_610feb : ∀ e ∈ ([(42, .iconst 1, 43), (43, .iadd, 44)] : List (Nat × Instr × Nat)), il_164.lookup e.1 = some e.2 := by decide +kernel
theorem li_164_44 : il_164.lookup 44 = some (.iastore, 45) := by decide +kernel
theorem bo_164_45_8e29f2 : ∀ e ∈ ([(45, .aload_n 0, 46)] : List (Nat × Instr × Nat)), il_164.lookup e.1 = some e.2 := by decide +kernel
theorem li_164_46 : il_164.lookup 46 = some (.getfield 117, 49) := by decide +kernel
theorem bo_164_49_e052b7 : ∀ e ∈ ([(49, .iload_n 1, 50)] : List (Nat × Instr × Nat)), il_164.lookup e.1 = some e.2 := by decide +kernel
theorem li_164_50 : il_164.lookup 50 = some (.iaload, 51) := by decide +kernel
theorem bo_164_51_93c172 : ∀ e ∈ ([(51, .aload_n 0, 52)] : List (Nat × Instr × Nat)), il_164.lookup e.1 = some e.2 := by decide +kernel
theorem li_164_52 : il_164.lookup 52 = some (.getfield 29, 55) := by decide +kernel
theorem li_164_55 : il_164.lookup 55 = some (.if_icmp .lt 21, 58) := by decide +kernel
theorem bo_164_58_df393a : ∀ e ∈ ([(58, .aload_n 0, 59)] : List (Nat × Instr × Nat)), il_164.lookup e.1 = some e.2 := by decide +kernel
theorem li_164_59 : il_164.lookup 59 = some (.getfield 129, 62) := by decide +kernel
theorem bo_164_62_13a257 : ∀ e ∈ ([(62, .iload_n 1, 63)] : List (Nat × Instr × Nat)), il_164.lookup e.1 = some e.2 := by decide +kernel
theorem li_164_63 : il_164.lookup 63 = some (.iaload, 64) := by decide +kernel
theorem bo_164_64_446f01 : ∀ e ∈ ([(64, .aload_n 0, 65)] : List (Nat × Instr × Nat)), il_164.lookup e.1 = some e.2 := by decide +kernel
theorem li_164_65 : il_164.lookup 65 = some (.getfield 32, 68) := by decide +kernel
theorem li_164_68 : il_164.lookup 68 = some (.if_icmp .ge 8, 71) := by decide +kernel
theorem bo_164_71_0bf829 : ∀ e ∈ ([(71, .aload_n 0, 72), (72, .iload_n 1, 73)] : List (Nat × Instr × Nat)), il_164.lookup e.1 = some e.2 := by decide +kernel
theorem li_164_73 : il_164.lookup 73 = some (.invokevirtual 278, 76) := by decide +kernel
theorem bo_164_32_191034 : ∀ e ∈ ([(32, .goto 44, 35)] : List (Nat × Instr × Nat)), il_164.lookup e.1 = some e.2 := by decide +kernel
theorem bo_164_0_264884 : ∀ e ∈ ([(0, .aload_n 0, 1), (1, .dup, 2)] : List (Nat × Instr × Nat)), il_164.lookup e.1 = some e.2 := by decide +kernel
theorem li_164_2 : il_164.lookup 2 = some (.getfield 243, 5) := by decide +kernel
theorem bo_164_5_ca77c4 : ∀ e ∈ ([(5, .iconst 1, 6), (6, .iadd, 7)] : List (Nat × Instr × Nat)), il_164.lookup e.1 = some e.2 := by decide +kernel
theorem li_164_7 : il_164.lookup 7 = some (.putfield 243, 10) := by decide +kernel
theorem bo_164_10_42a704 : ∀ e ∈ ([(10, .aload_n 0, 11), (11, .iconst 1, 12)] : List (Nat × Instr × Nat)), il_164.lookup e.1 = some e.2 := by decide +kernel
theorem li_164_12 : il_164.lookup 12 = some (.putfield 259, 15) := by decide +kernel
theorem bo_164_15_d45c32 : ∀ e ∈ ([(15, .iconst 0, 16), (16, .istore_n 1, 17)] : List (Nat × Instr × Nat)), il_164.lookup e.1 = some e.2 := by decide +kernel
theorem bo_165_16_f4f9fa : ∀ e ∈ ([(16, .iload_n 2, 17), (17, .iload_n 1, 18)] : List (Nat × Instr × Nat)), il_165.lookup e.1 = some e.2 := by decide +kernel
theorem li_165_18 : il_165.lookup 18 = some (.if_icmp .ge 20, 21) := by decide +kernel
theorem bo_165_38_c8c763 : ∀ e ∈ ([(38, .iload_n 2, 39)] : List (Nat × Instr × Nat)), il_165.lookup e.1 = some e.2 := by decide +kernel
theorem li_165_39 : il_165.lookup 39 = some (.ireturn, 40) := by decide +kernel
theorem bo_165_21_46c79c : ∀ e ∈ ([(21, .aload_n 0, 22)] : List (Nat × Instr × Nat)), il_165.lookup e.1 = some e.2 := by decide +kernel
theorem li_165_22 : il_165.lookup 22 = some (.invokevirtual 370, 25) := by decide +kernel
theorem li_165_25 : il_165.lookup 25 = some (.ifCond .ne 13, 28) := by decide +kernel
theorem bo_165_28_f39cd0 : ∀ e ∈ ([(28, .aload_n 0, 29)] : List (Nat × Instr × Nat)), il_165.lookup e.1 = some e.2 := by decide +kernel
theorem li_165_29 : il_165.lookup 29 = some (.invokevirtual 374, 32) := by decide +kernel
theorem bo_165_32_93ea17 : ∀ e ∈ ([(32, .iinc 2 1, 35), (35, .goto (-19), 38)] : List (Nat × Instr × Nat)), il_165.lookup e.1 = some e.2 := by decide +kernel
theorem bo_165_0_8b3750 : ∀ e ∈ ([(0, .iload_n 1, 1), (1, .iconst 1, 2), (2, .sipush 200, 5)] : List (Nat × Instr × Nat)), il_165.lookup e.1 = some e.2 := by decide +kernel
theorem li_165_5 : il_165.lookup 5 = some (.invokestatic 203, 8) := by decide +kernel
theorem li_165_8 : il_165.lookup 8 = some (.ifCond .ne 6, 11) := by decide +kernel
theorem bo_165_14_4d7356 : ∀ e ∈ ([(14, .iconst 0, 15), (15, .istore_n 2, 16)] : List (Nat × Instr × Nat)), il_165.lookup e.1 = some e.2 := by decide +kernel
theorem bo_165_11_081257 : ∀ e ∈ ([(11, .ldc 207, 13)] : List (Nat × Instr × Nat)), il_165.lookup e.1 = some e.2 := by decide +kernel
theorem li_165_13 : il_165.lookup 13 = some (.ireturn, 14) := by decide +kernel
theorem bo_166_0_8d5162 : ∀ e ∈ ([(0, .aload_n 0, 1)] : List (Nat × Instr × Nat)), il_166.lookup e.1 = some e.2 := by decide +kernel
theorem li_166_1 : il_166.lookup 1 = some (.getfield 31, 4) := by decide +kernel
theorem li_166_4 : il_166.lookup 4 = some (.invokevirtual 114, 7) := by decide +kernel
theorem li_166_7 : il_166.lookup 7 = some (.ifCond .eq 7, 10) := by decide +kernel
theorem bo_166_14_3e81ce : ∀ e ∈ ([(14, .iconst 0, 15)] : List (Nat × Instr × Nat)), il_166.lookup e.1 = some e.2 := by decide +kernel
theorem li_166_15 : il_166.lookup 15 = some (.ireturn, 16) := by decide +kernel
theorem bo_166_10_42a704 : ∀ e ∈ ([(10, .iconst 1, 11), (11, .goto 4, 14)] : List (Nat × Instr × Nat)), il_166.lookup e.1 = some e.2 := by decide +kernel
theorem bo_167_0_8d5162 : ∀ e ∈ ([(0, .aload_n 0, 1)] : List (Nat × Instr × Nat)), il_167.lookup e.1 = some e.2 := by decide +kernel
theorem li_167_1 : il_167.lookup 1 = some (.invokevirtual 370, 4) := by decide +kernel
theorem li_167_4 : il_167.lookup 4 = some (.ifCond .eq 7, 7) := by decide +kernel
theorem bo_167_11_081257 : ∀ e ∈ ([(11, .iconst 0, 12)] : List (Nat × Instr × Nat)), il_167.lookup e.1 = some e.2 := by decide +kernel
theorem li_167_12 : il_167.lookup 12 = some (.ireturn, 13) := by decide +kernel
theorem bo_167_7_7eef78 : ∀ e ∈ ([(7, .iconst 1, 8), (8, .goto 4, 11)] : List (Nat × Instr × Nat)), il_167.lookup e.1 = some e.2 := by decide +kernel
theorem bo_168_0_264884 : ∀ e ∈ ([(0, .aload_n 0, 1), (1, .iconst 1, 2)] : List (Nat × Instr × Nat)), il_168.lookup e.1 = some e.2 := by decide +kernel
theorem li_168_2 : il_168.lookup 2 = some (.putfield 106, 5) := by decide +kernel
theorem bo_168_5_ca77c4 : ∀ e ∈ ([(5, .aload_n 0, 6), (6, .aload_n 0, 7)] : List (Nat × Instr × Nat)), il_168.lookup e.1 = some e.2 := by decide +kernel
theorem li_168_7 : il_168.lookup 7 = some (.getfield 100, 10) := by decide +kernel
theorem bo_168_10_42a704 : ∀ e ∈ ([(10, .iconst 1, 11), (11, .iadd, 12)] : List (Nat × Instr × Nat)), il_168.lookup e.1 = some e.2 := by decide +kernel
theorem li_168_12 : il_168.lookup 12 = some (.putfield 126, 15) := by decide +kernel
theorem bo_168_15_f418fa : ∀ e ∈ ([(15, .aload_n 0, 16), (16, .aload_n 0, 17), (17, .aload_n 0, 18)] : List (Nat × Instr × Nat)), il_168.lookup e.1 = some e.2 := by decide +kernel
theorem li_168_18 : il_168.lookup 18 = some (.getfield 50, 21) := by decide +kernel
theorem bo_168_21_13696e : ∀ e ∈ ([(21, .iconst 1, 22), (22, .iadd, 23)] : List (Nat × Instr × Nat)), il_168.lookup e.1 = some e.2 := by decide +kernel
theorem li_168_23 : il_168.lookup 23 = some (.invokevirtual 129, 26) := by decide +kernel
theorem li_168_26 : il_168.lookup 26 = some (.putfield 132, 29) := by decide +kernel
theorem bo_168_29_2746c1 : ∀ e ∈ ([(29, .aload_n 0, 30), (30, .aload_n 0, 31)] : List (Nat × Instr × Nat)), il_168.lookup e.1 = some e.2 := by decide +kernel
theorem li_168_31 : il_168.lookup 31 = some (.getfield 135, 34) := by decide +kernel
theorem li_168_34 : il_168.lookup 34 = some (.putfield 138, 37) := by decide +kernel
theorem bo_168_37_8043bb : ∀ e ∈ ([(37, .aload_n 0, 38), (38, .iconst 0, 39), (39, .iconst 0, 40)] : List (Nat × Instr × Nat)), il_168.lookup e.1 = some e.2 := by decide +kernel
theorem li_168_40 : il_168.lookup 40 = some (.invokevirtual 141, 43) := by decide +kernel
theorem bo_168_43_b66fbf : ∀ e ∈ ([(43, .astore_n 1, 44), (44, .aload_n 1, 45), (45, .ifnull 16, 48)] : List (Nat × Instr × Nat)), il_168.lookup e.1 = some e.2 := by decide +kernel
theorem li_168_61 : il_168.lookup 61 = some (.return_, 62) := by decide +kernel
theorem bo_168_43_0dbd3e : ∀ e ∈ ([(43, .astore_n 1, 44), (44, .aload_n 1, 45), (45, .ifnull 16, 48), (48, .aload_n 1, 49), (49, .aload_n 1, 50)] : List (Nat × Instr × Nat)), il_168.lookup e.1 = some e.2 := by decide +kernel
theorem li_168_50 : il_168.lookup 50 = some (.getfield 145, 53) := by decide +kernel
theorem li_168_53 : il_168.lookup 53 = some (.putfield 150, 56) := by decide +kernel
theorem bo_168_56_ba4435 : ∀ e ∈ ([(56, .aload_n 1, 57), (57, .iconst 1, 58)] : List (Nat × Instr × Nat)), il_168.lookup e.1 = some e.2 := by decide +kernel
theorem li_168_58 : il_168.lookup 58 = some (.putfield 153, 61) := by decide +kernel
theorem bo_169_0_8d5162 : ∀ e ∈ ([(0, .aload_n 0, 1)] : List (Nat × Instr × Nat)), il_169.lookup e.1 = some e.2 := by decide +kernel
theorem li_169_1 : il_169.lookup 1 = some (.getfield 31, 4) := by decide +kernel
theorem li_169_4 : il_169.lookup 4 = some (.getfield 120, 7) := by decide +kernel
theorem li_169_7 : il_169.lookup 7 = some (.ifCond .eq 6, 10) := by decide +kernel
theorem bo_169_13_15f019 : ∀ e ∈ ([(13, .aload_n 0, 14)] : List (Nat × Instr × Nat)), il_169.lookup e.1 = some e.2 := by decide +kernel
theorem li_169_14 : il_169.lookup 14 = some (.getfield 31, 17) := by decide +kernel
theorem li_169_17 : il_169.lookup 17 = some (.invokevirtual 124, 20) := by decide +kernel
theorem bo_169_20_baa9a0 : ∀ e ∈ ([(20, .aload_n 0, 21)] : List (Nat × Instr × Nat)), il_169.lookup e.1 = some e.2 := by decide +kernel
theorem li_169_21 : il_169.lookup 21 = some (.getfield 31, 24) := by decide +kernel
theorem li_169_24 : il_169.lookup 24 = some (.getfield 120, 27) := by decide +kernel
theorem li_169_27 : il_169.lookup 27 = some (.ireturn, 28) := by decide +kernel
theorem bo_169_10_2a30f5 : ∀ e ∈ ([(10, .ldc 123, 12)] : List (Nat × Instr × Nat)), il_169.lookup e.1 = some e.2 := by decide +kernel
theorem li_169_12 : il_169.lookup 12 = some (.ireturn, 13) := by decide +kernel
theorem bo_170_68_702533 : ∀ e ∈ ([(68, .iload_n 1, 69), (69, .bipush 18, 71)] : List (Nat × Instr × Nat)), il_170.lookup e.1 = some e.2 := by decide +kernel
theorem li_170_71 : il_170.lookup 71 = some (.if_icmp .ge 16, 74) := by decide +kernel
theorem bo_170_87_f249ad : ∀ e ∈ ([(87, .aload_n 0, 88), (88, .aload_n 0, 89)] : List (Nat × Instr × Nat)), il_170.lookup e.1 = some e.2 := by decide +kernel
theorem li_170_89 : il_170.lookup 89 = some (.getfield 271, 92) := by decide +kernel
theorem li_170_92 : il_170.lookup 92 = some (.putfield 312, 95) := by decide +kernel
theorem bo_170_95_076086 : ∀ e ∈ ([(95, .aload_n 0, 96)] : List (Nat × Instr × Nat)), il_170.lookup e.1 = some e.2 := by decide +kernel
theorem li_170_96 : il_170.lookup 96 = some (.getfield 87, 99) := by decide +kernel
theorem bo_170_99_aace6c : ∀ e ∈ ([(99, .iconst 0, 100), (100, .aload_n 0, 101)] : List (Nat × Instr × Nat)), il_170.lookup e.1 = some e.2 := by decide +kernel
theorem li_170_101 : il_170.lookup 101 = some (.getfield 84, 104) := by decide +kernel
theorem bo_170_104_a38d21 : ∀ e ∈ ([(104, .iconst 0, 105)] : List (Nat × Instr × Nat)), il_170.lookup e.1 = some e.2 := by decide +kernel
theorem li_170_105 : il_170.lookup 105 = some (.iaload, 106) := by decide +kernel
theorem li_170_106 : il_170.lookup 106 = some (.iastore, 107) := by decide +kernel
theorem bo_170_107_0ab20e : ∀ e ∈ ([(107, .aload_n 0, 108)] : List (Nat × Instr × Nat)), il_170.lookup e.1 = some e.2 := by decide +kernel
theorem li_170_108 : il_170.lookup 108 = some (.getfield 111, 111) := by decide +kernel
theorem bo_170_111_e49653 : ∀ e ∈ ([(111, .iconst 0, 112), (112, .iconst 1, 113)] : List (Nat × Instr × Nat)), il_170.lookup e.1 = some e.2 := by decide +kernel
theorem li_170_113 : il_170.lookup 113 = some (.bastore, 114) := by decide +kernel
theorem bo_170_114_28d19b : ∀ e ∈ ([(114, .aload_n 0, 115)] : List (Nat × Instr × Nat)), il_170.lookup e.1 = some e.2 := by decide +kernel
theorem li_170_115 : il_170.lookup 115 = some (.getfield 268, 118) := by decide +kernel
theorem li_170_118 : il_170.lookup 118 = some (.ireturn, 119) := by decide +kernel
theorem bo_170_74_ac6591 : ∀ e ∈ ([(74, .aload_n 0, 75)] : List (Nat × Instr × Nat)), il_170.lookup e.1 = some e.2 := by decide +kernel
theorem li_170_75 : il_170.lookup 75 = some (.getfield 87, 78) := by decide +kernel
theorem bo_170_78_32a02f : ∀ e ∈ ([(78, .iload_n 1, 79), (79, .iconst 0, 80)] : List (Nat × Instr × Nat)), il_170.lookup e.1 = some e.2 := by decide +kernel
theorem li_170_80 : il_170.lookup 80 = some (.iastore, 81) := by decide +kernel
theorem bo_170_81_9cfde1 : ∀ e ∈ ([(81, .iinc 1 1, 84), (84, .goto (-16), 87)] : List (Nat × Instr × Nat)), il_170.lookup e.1 = some e.2 := by decide +kernel
theorem bo_170_33_9ed66c : ∀ e ∈ ([(33, .iload_n 1, 34), (34, .bipush 96, 36)] : List (Nat × Instr × Nat)), il_170.lookup e.1 = some e.2 := by decide +kernel
theorem li_170_36 : il_170.lookup 36 = some (.if_icmp .ge 30, 39) := by decide +kernel
theorem bo_170_66_b88f8a : ∀ e ∈ ([(66, .iconst 0, 67), (67, .istore_n 1, 68)] : List (Nat × Instr × Nat)), il_170.lookup e.1 = some e.2 := by decide +kernel
theorem bo_170_39_4dcc25 : ∀ e ∈ ([(39, .aload_n 0, 40)] : List (Nat × Instr × Nat)), il_170.lookup e.1 = some e.2 := by decide +kernel
theorem li_170_40 : il_170.lookup 40 = some (.getfield 60, 43) := by decide +kernel
theorem bo_170_43_98bd08 : ∀ e ∈ ([(43, .iload_n 1, 44), (44, .iconst 0, 45)] : List (Nat × Instr × Nat)), il_170.lookup e.1 = some e.2 := by decide +kernel
theorem li_170_45 : il_170.lookup 45 = some (.bastore, 46) := by decide +kernel
theorem bo_170_46_4b02d4 : ∀ e ∈ ([(46, .aload_n 0, 47)] : List (Nat × Instr × Nat)), il_170.lookup e.1 = some e.2 := by decide +kernel
theorem li_170_47 : il_170.lookup 47 = some (.getfield 69, 50) := by decide +kernel
theorem bo_170_50_b22ebb : ∀ e ∈ ([(50, .iload_n 1, 51), (51, .iconst 0, 52)] : List (Nat × Instr × Nat)), il_170.lookup e.1 = some e.2 := by decide +kernel
theorem li_170_52 : il_170.lookup 52 = some (.iastore, 53) := by decide +kernel
theorem bo_170_53_a422c0 : ∀ e ∈ ([(53, .aload_n 0, 54)] : List (Nat × Instr × Nat)), il_170.lookup e.1 = some e.2 := by decide +kernel
theorem li_170_54 : il_170.lookup 54 = some (.getfield 78, 57) := by decide +kernel
theorem bo_170_57_1292c4 : ∀ e ∈ ([(57, .iload_n 1, 58), (58, .iconst 0, 59)] : List (Nat × Instr × Nat)), il_170.lookup e.1 = some e.2 := by decide +kernel
theorem li_170_59 : il_170.lookup 59 = some (.iastore, 60) := by decide +kernel
theorem bo_170_60_273e85 : ∀ e ∈ ([(60, .iinc 1 1, 63), (63, .goto (-30), 66)] : List (Nat × Instr × Nat)), il_170.lookup e.1 = some e.2 := by decide +kernel
theorem bo_170_0_8d5162 : ∀ e ∈ ([(0, .aload_n 0, 1)] : List (Nat × Instr × Nat)), il_170.lookup e.1 = some e.2 := by decide +kernel
theorem li_170_1 : il_170.lookup 1 = some (.getfield 268, 4) := by decide +kernel
theorem li_170_4 : il_170.lookup 4 = some (.ifCond .le 7, 7) := by decide +kernel
theorem bo_170_11_274bbd : ∀ e ∈ ([(11, .aload_n 0, 12), (12, .aload_n 0, 13)] : List (Nat × Instr × Nat)), il_170.lookup e.1 = some e.2 := by decide +kernel
theorem li_170_13 : il_170.lookup 13 = some (.getfield 253, 16) := by decide +kernel
theorem bo_170_16_f4f9fa : ∀ e ∈ ([(16, .iconst 1, 17), (17, .iadd, 18)] : List (Nat × Instr × Nat)), il_170.lookup e.1 = some e.2 := by decide +kernel
theorem li_170_18 : il_170.lookup 18 = some (.putfield 268, 21) := by decide +kernel
theorem bo_170_21_13696e : ∀ e ∈ ([(21, .aload_n 0, 22), (22, .iconst 1, 23)] : List (Nat × Instr × Nat)), il_170.lookup e.1 = some e.2 := by decide +kernel
theorem li_170_23 : il_170.lookup 23 = some (.putfield 259, 26) := by decide +kernel
theorem bo_170_26_539da0 : ∀ e ∈ ([(26, .aload_n 0, 27), (27, .iconst 0, 28)] : List (Nat × Instr × Nat)), il_170.lookup e.1 = some e.2 := by decide +kernel
theorem li_170_28 : il_170.lookup 28 = some (.putfield 318, 31) := by decide +kernel
theorem bo_170_31_f6932f : ∀ e ∈ ([(31, .iconst 0, 32), (32, .istore_n 1, 33)] : List (Nat × Instr × Nat)), il_170.lookup e.1 = some e.2 := by decide +kernel
theorem bo_170_7_9b264f : ∀ e ∈ ([(7, .ldc_w 376, 10)] : List (Nat × Instr × Nat)), il_170.lookup e.1 = some e.2 := by decide +kernel
theorem li_170_10 : il_170.lookup 10 = some (.ireturn, 11) := by decide +kernel
theorem bo_171_0_8d5162 : ∀ e ∈ ([(0, .aload_n 0, 1)] : List (Nat × Instr × Nat)), il_171.lookup e.1 = some e.2 := by decide +kernel
theorem li_171_1 : il_171.lookup 1 = some (.invokevirtual 110, 4) := by decide +kernel
theorem bo_171_4_40e659 : ∀ e ∈ ([(4, .aload_n 0, 5), (5, .dup, 6)] : List (Nat × Instr × Nat)), il_171.lookup e.1 = some e.2 := by decide +kernel
theorem li_171_6 : il_171.lookup 6 = some (.getfield 113, 9) := by decide +kernel
theorem bo_171_9_16efa2 : ∀ e ∈ ([(9, .iconst 1, 10), (10, .iadd, 11)] : List (Nat × Instr × Nat)), il_171.lookup e.1 = some e.2 := by decide +kernel
theorem li_171_11 : il_171.lookup 11 = some (.putfield 113, 14) := by decide +kernel
theorem li_171_14 : il_171.lookup 14 = some (.return_, 15) := by decide +kernel
theorem bo_172_0_8d5162 : ∀ e ∈ ([(0, .aload_n 0, 1)] : List (Nat × Instr × Nat)), il_172.lookup e.1 = some e.2 := by decide +kernel
theorem li_172_1 : il_172.lookup 1 = some (.getfield 31, 4) := by decide +kernel
theorem li_172_4 : il_172.lookup 4 = some (.invokevirtual 127, 7) := by decide +kernel
theorem bo_172_7_9b264f : ∀ e ∈ ([(7, .aload_n 0, 8)] : List (Nat × Instr × Nat)), il_172.lookup e.1 = some e.2 := by decide +kernel
theorem li_172_8 : il_172.lookup 8 = some (.getfield 31, 11) := by decide +kernel
theorem li_172_11 : il_172.lookup 11 = some (.getfield 130, 14) := by decide +kernel
theorem li_172_14 : il_172.lookup 14 = some (.ireturn, 15) := by decide +kernel
theorem bo_173_0_264884 : ∀ e ∈ ([(0, .aload_n 0, 1), (1, .dup, 2)] : List (Nat × Instr × Nat)), il_173.lookup e.1 = some e.2 := by decide +kernel
theorem li_173_2 : il_173.lookup 2 = some (.getfield 256, 5) := by decide +kernel
theorem bo_173_5_ca77c4 : ∀ e ∈ ([(5, .iconst 1, 6), (6, .iadd, 7)] : List (Nat × Instr × Nat)), il_173.lookup e.1 = some e.2 := by decide +kernel
theorem li_173_7 : il_173.lookup 7 = some (.putfield 256, 10) := by decide +kernel
theorem bo_173_10_2a30f5 : ∀ e ∈ ([(10, .aload_n 0, 11)] : List (Nat × Instr × Nat)), il_173.lookup e.1 = some e.2 := by decide +kernel
theorem li_173_11 : il_173.lookup 11 = some (.invokevirtual 265, 14) := by decide +kernel
theorem bo_173_14_3e81ce : ∀ e ∈ ([(14, .aload_n 0, 15)] : List (Nat × Instr × Nat)), il_173.lookup e.1 = some e.2 := by decide +kernel
theorem li_173_15 : il_173.lookup 15 = some (.getfield 253, 18) := by decide +kernel
theorem li_173_18 : il_173.lookup 18 = some (.ireturn, 19) := by decide +kernel
theorem bo_174_42_1d5896 : ∀ e ∈ ([(42, .iinc 3 1, 45), (45, .goto (-41), 48)] : List (Nat × Instr × Nat)), il_174.lookup e.1 = some e.2 := by decide +kernel
theorem bo_174_4_40e659 : ∀ e ∈ ([(4, .iload_n 3, 5), (5, .bipush 16, 7)] : List (Nat × Instr × Nat)), il_174.lookup e.1 = some e.2 := by decide +kernel
theorem li_174_7 : il_174.lookup 7 = some (.if_icmp .ge 41, 10) := by decide +kernel
theorem bo_174_48_04c55a : ∀ e ∈ ([(48, .iload_n 2, 49)] : List (Nat × Instr × Nat)), il_174.lookup e.1 = some e.2 := by decide +kernel
theorem li_174_49 : il_174.lookup 49 = some (.ireturn, 50) := by decide +kernel
theorem bo_174_10_2a30f5 : ∀ e ∈ ([(10, .aload_n 0, 11)] : List (Nat × Instr × Nat)), il_174.lookup e.1 = some e.2 := by decide +kernel
theorem li_174_11 : il_174.lookup 11 = some (.getfield 20, 14) := by decide +kernel
theorem bo_174_14_3e81ce : ∀ e ∈ ([(14, .iload_n 3, 15)] : List (Nat × Instr × Nat)), il_174.lookup e.1 = some e.2 := by decide +kernel
theorem li_174_15 : il_174.lookup 15 = some (.invokevirtual 60, 18) := by decide +kernel
theorem li_174_18 : il_174.lookup 18 = some (.ifCond .eq 24, 21) := by decide +kernel
theorem bo_174_21_cd309e : ∀ e ∈ ([(21, .aload_n 0, 22), (22, .iload_n 3, 23), (23, .aload_n 0, 24)] : List (Nat × Instr × Nat)), il_174.lookup e.1 = some e.2 := by decide +kernel
theorem li_174_24 : il_174.lookup 24 = some (.getfield 57, 27) := by decide +kernel
theorem li_174_27 : il_174.lookup 27 = some (.invokevirtual 64, 30) := by decide +kernel
theorem bo_174_30_8434fa : ∀ e ∈ ([(30, .aload_n 0, 31), (31, .iload_n 3, 32), (32, .iload_n 1, 33)] : List (Nat × Instr × Nat)), il_174.lookup e.1 = some e.2 := by decide +kernel
theorem li_174_33 : il_174.lookup 33 = some (.invokevirtual 64, 36) := by decide +kernel
theorem li_174_36 : il_174.lookup 36 = some (.if_icmp .eq 6, 39) := by decide +kernel
theorem bo_174_39_4dcc25 : ∀ e ∈ ([(39, .iinc 2 1, 42)] : List (Nat × Instr × Nat)), il_174.lookup e.1 = some e.2 := by decide +kernel
theorem bo_174_0_5a4d31 : ∀ e ∈ ([(0, .iconst 0, 1), (1, .istore_n 2, 2), (2, .iconst 0, 3), (3, .istore_n 3, 4)] : List (Nat × Instr × Nat)), il_174.lookup e.1 = some e.2 := by decide +kernel
theorem bo_175_0_8d5162 : ∀ e ∈ ([(0, .aload_n 0, 1)] : List (Nat × Instr × Nat)), il_175.lookup e.1 = some e.2 := by decide +kernel
theorem li_175_1 : il_175.lookup 1 = some (.invokevirtual 116, 4) := by decide +kernel
theorem bo_175_4_40e659 : ∀ e ∈ ([(4, .aload_n 0, 5), (5, .iload_n 1, 6)] : List (Nat × Instr × Nat)), il_175.lookup e.1 = some e.2 := by decide +kernel
theorem li_175_6 : il_175.lookup 6 = some (.invokevirtual 54, 9) := by decide +kernel
theorem bo_175_9_681304 : ∀ e ∈ ([(9, .astore_n 3, 10), (10, .aload_n 3, 11), (11, .ifnonnull 5, 14), (14, .iconst 0, 15)] : List (Nat × Instr × Nat)), il_175.lookup e.1 = some e.2 := by decide +kernel
theorem li_175_15 : il_175.lookup 15 = some (.ireturn, 16) := by decide +kernel
theorem bo_175_9_fdbcdb : ∀ e ∈ ([(9, .astore_n 3, 10), (10, .aload_n 3, 11), (11, .ifnonnull 5, 14), (16, .aload_n 3, 17), (17, .iload_n 2, 18)] : List (Nat × Instr × Nat)), il_175.lookup e.1 = some e.2 := by decide +kernel
theorem li_175_18 : il_175.lookup 18 = some (.invokevirtual 119, 21) := by decide +kernel
theorem bo_175_21_67cba4 : ∀ e ∈ ([(21, .istore 4, 23), (23, .aload_n 3, 24), (24, .iload_n 2, 25)] : List (Nat × Instr × Nat)), il_175.lookup e.1 = some e.2 := by decide +kernel
theorem li_175_25 : il_175.lookup 25 = some (.putfield 58, 28) := by decide +kernel
theorem bo_175_28_f39cd0 : ∀ e ∈ ([(28, .aload_n 3, 29)] : List (Nat × Instr × Nat)), il_175.lookup e.1 = some e.2 := by decide +kernel
theorem li_175_29 : il_175.lookup 29 = some (.invokevirtual 123, 32) := by decide +kernel
theorem bo_175_32_191034 : ∀ e ∈ ([(32, .iload 4, 34)] : List (Nat × Instr × Nat)), il_175.lookup e.1 = some e.2 := by decide +kernel
theorem li_175_34 : il_175.lookup 34 = some (.ireturn, 35) := by decide +kernel
theorem bo_176_0_8d5162 : ∀ e ∈ ([(0, .iload_n 1, 1)] : List (Nat × Instr × Nat)), il_176.lookup e.1 = some e.2 := by decide +kernel
theorem li_176_1 : il_176.lookup 1 = some (.ifCond .eq 14, 4) := by decide +kernel
theorem bo_176_15_be4250 : ∀ e ∈ ([(15, .ldc 137, 17)] : List (Nat × Instr × Nat)), il_176.lookup e.1 = some e.2 := by decide +kernel
theorem li_176_17 : il_176.lookup 17 = some (.ireturn, 18) := by decide +kernel
theorem bo_176_4_e962e2 : ∀ e ∈ ([(4, .aload_n 0, 5)] : List (Nat × Instr × Nat)), il_176.lookup e.1 = some e.2 := by decide +kernel
theorem li_176_5 : il_176.lookup 5 = some (.getfield 31, 8) := by decide +kernel
theorem bo_176_8_383530 : ∀ e ∈ ([(8, .iload_n 1, 9)] : List (Nat × Instr × Nat)), il_176.lookup e.1 = some e.2 := by decide +kernel
theorem li_176_9 : il_176.lookup 9 = some (.invokevirtual 133, 12) := by decide +kernel
theorem bo_176_12_b800e1 : ∀ e ∈ ([(12, .ifnonnull 6, 15), (15, .ldc 137, 17)] : List (Nat × Instr × Nat)), il_176.lookup e.1 = some e.2 := by decide +kernel
theorem bo_176_12_6e6a7c : ∀ e ∈ ([(12, .ifnonnull 6, 15), (18, .iload_n 2, 19), (19, .iconst 1, 20)] : List (Nat × Instr × Nat)), il_176.lookup e.1 = some e.2 := by decide +kernel
theorem li_176_20 : il_176.lookup 20 = some (.if_icmp .lt 8, 23) := by decide +kernel
theorem bo_176_28_f39cd0 : ∀ e ∈ ([(28, .ldc 51, 30)] : List (Nat × Instr × Nat)), il_176.lookup e.1 = some e.2 := by decide +kernel
theorem li_176_30 : il_176.lookup 30 = some (.ireturn, 31) := by decide +kernel
theorem bo_176_23_31ad6f : ∀ e ∈ ([(23, .iload_n 2, 24), (24, .iconst 3, 25)] : List (Nat × Instr × Nat)), il_176.lookup e.1 = some e.2 := by decide +kernel
theorem li_176_25 : il_176.lookup 25 = some (.if_icmp .le 6, 28) := by decide +kernel
theorem bo_176_31_c379e3 : ∀ e ∈ ([(31, .aload_n 0, 32)] : List (Nat × Instr × Nat)), il_176.lookup e.1 = some e.2 := by decide +kernel
theorem li_176_32 : il_176.lookup 32 = some (.getfield 31, 35) := by decide +kernel
theorem bo_176_35_b49e7d : ∀ e ∈ ([(35, .iload_n 1, 36), (36, .iload_n 2, 37)] : List (Nat × Instr × Nat)), il_176.lookup e.1 = some e.2 := by decide +kernel
theorem li_176_37 : il_176.lookup 37 = some (.invokevirtual 138, 40) := by decide +kernel
theorem li_176_40 : il_176.lookup 40 = some (.ireturn, 41) := by decide +kernel
theorem bo_177_0_8b3750 : ∀ e ∈ ([(0, .iload_n 1, 1), (1, .iconst 0, 2), (2, .aload_n 0, 3)] : List (Nat × Instr × Nat)), il_177.lookup e.1 = some e.2 := by decide +kernel
theorem li_177_3 : il_177.lookup 3 = some (.invokevirtual 199, 6) := by decide +kernel
theorem li_177_6 : il_177.lookup 6 = some (.invokestatic 203, 9) := by decide +kernel
theorem li_177_9 : il_177.lookup 9 = some (.ireturn, 10) := by decide +kernel
theorem bo_178_146_37c651 : ∀ e ∈ ([(146, .iadd, 147), (147, .istore 4, 149), (149, .iinc 5 1, 152), (152, .goto (-63), 155)] : List (Nat × Instr × Nat)), il_178.lookup e.1 = some e.2 := by decide +kernel
theorem bo_178_145_61494d : ∀ e ∈ ([(145, .iconst 0, 146)] : List (Nat × Instr × Nat)), il_178.lookup e.1 = some e.2 := by decide +kernel
theorem bo_178_89_580819 : ∀ e ∈ ([(89, .iload 5, 91), (91, .bipush 16, 93)] : List (Nat × Instr × Nat)), il_178.lookup e.1 = some e.2 := by decide +kernel
theorem li_178_93 : il_178.lookup 93 = some (.if_icmp .ge 62, 96) := by decide +kernel
theorem bo_178_155_2973a9 : ∀ e ∈ ([(155, .iload 4, 157)] : List (Nat × Instr × Nat)), il_178.lookup e.1 = some e.2 := by decide +kernel
theorem li_178_157 : il_178.lookup 157 = some (.ireturn, 158) := by decide +kernel
theorem bo_178_96_31fd26 : ∀ e ∈ ([(96, .aload_n 0, 97), (97, .iload_n 1, 98)] : List (Nat × Instr × Nat)), il_178.lookup e.1 = some e.2 := by decide +kernel
theorem li_178_98 : il_178.lookup 98 = some (.invokevirtual 281, 101) := by decide +kernel
theorem li_178_101 : il_178.lookup 101 = some (.ifCond .eq 54, 104) := by decide +kernel
theorem bo_178_104_1934cb : ∀ e ∈ ([(104, .iload 4, 106), (106, .aload_n 0, 107)] : List (Nat × Instr × Nat)), il_178.lookup e.1 = some e.2 := by decide +kernel
theorem li_178_107 : il_178.lookup 107 = some (.getfield 56, 110) := by decide +kernel
theorem bo_178_110_ca1c1f : ∀ e ∈ ([(110, .bipush 16, 112), (112, .iload_n 1, 113), (113, .imul, 114), (114, .iload 5, 116), (116, .iadd, 117)] : List (Nat × Instr × Nat)), il_178.lookup e.1 = some e.2 := by decide +kernel
theorem li_178_117 : il_178.lookup 117 = some (.baload, 118) := by decide +kernel
theorem li_178_118 : il_178.lookup 118 = some (.ifCond .eq 27, 121) := by decide +kernel
theorem bo_178_121_9ab7c9 : ∀ e ∈ ([(121, .iload 5, 123), (123, .bipush 8, 125)] : List (Nat × Instr × Nat)), il_178.lookup e.1 = some e.2 := by decide +kernel
theorem li_178_125 : il_178.lookup 125 = some (.irem, 126) := by decide +kernel
theorem bo_178_126_5c1ba5 : ∀ e ∈ ([(126, .iload_n 3, 127), (127, .imul, 128), (128, .bipush 8, 130)] : List (Nat × Instr × Nat)), il_178.lookup e.1 = some e.2 := by decide +kernel
theorem li_178_130 : il_178.lookup 130 = some (.idiv, 131) := by decide +kernel
theorem bo_178_131_338c1e : ∀ e ∈ ([(131, .aload_n 0, 132), (132, .iload_n 1, 133), (133, .iload 5, 135)] : List (Nat × Instr × Nat)), il_178.lookup e.1 = some e.2 := by decide +kernel
theorem li_178_135 : il_178.lookup 135 = some (.invokevirtual 285, 138) := by decide +kernel
theorem li_178_138 : il_178.lookup 138 = some (.if_icmp .eq 7, 141) := by decide +kernel
theorem bo_178_141_a925e9 : ∀ e ∈ ([(141, .iconst 1, 142), (142, .goto 4, 145)] : List (Nat × Instr × Nat)), il_178.lookup e.1 = some e.2 := by decide +kernel
theorem bo_178_48_ef5aec : ∀ e ∈ ([(48, .iload 4, 50), (50, .iconst 3, 51)] : List (Nat × Instr × Nat)), il_178.lookup e.1 = some e.2 := by decide +kernel
theorem li_178_51 : il_178.lookup 51 = some (.if_icmp .ge 21, 54) := by decide +kernel
theorem bo_178_72_c0ffc8 : ∀ e ∈ ([(72, .aload_n 0, 73)] : List (Nat × Instr × Nat)), il_178.lookup e.1 = some e.2 := by decide +kernel
theorem li_178_73 : il_178.lookup 73 = some (.getfield 22, 76) := by decide +kernel
theorem bo_178_76_3caaf4 : ∀ e ∈ ([(76, .iload_n 1, 77), (77, .iload_n 2, 78)] : List (Nat × Instr × Nat)), il_178.lookup e.1 = some e.2 := by decide +kernel
theorem li_178_78 : il_178.lookup 78 = some (.iastore, 79) := by decide +kernel
theorem bo_178_79_febf86 : ∀ e ∈ ([(79, .aload_n 0, 80)] : List (Nat × Instr × Nat)), il_178.lookup e.1 = some e.2 := by decide +kernel
theorem li_178_80 : il_178.lookup 80 = some (.invokevirtual 265, 83) := by decide +kernel
theorem bo_178_83_1ff02d : ∀ e ∈ ([(83, .iconst 0, 84), (84, .istore 4, 86), (86, .iconst 0, 87), (87, .istore 5, 89)] : List (Nat × Instr × Nat)), il_178.lookup e.1 = some e.2 := by decide +kernel
theorem bo_178_54_02ca38 : ∀ e ∈ ([(54, .aload_n 0, 55)] : List (Nat × Instr × Nat)), il_178.lookup e.1 = some e.2 := by decide +kernel
theorem li_178_55 : il_178.lookup 55 = some (.getfield 90, 58) := by decide +kernel
theorem bo_178_58_6e952f : ∀ e ∈ ([(58, .iload_n 1, 59), (59, .iload 4, 61)] : List (Nat × Instr × Nat)), il_178.lookup e.1 = some e.2 := by decide +kernel
theorem li_178_61 : il_178.lookup 61 = some (.invokestatic 288, 64) := by decide +kernel
theorem bo_178_64_446f01 : ∀ e ∈ ([(64, .iconst 0, 65)] : List (Nat × Instr × Nat)), il_178.lookup e.1 = some e.2 := by decide +kernel
theorem li_178_65 : il_178.lookup 65 = some (.iastore, 66) := by decide +kernel
theorem bo_178_66_3cc17a : ∀ e ∈ ([(66, .iinc 4 1, 69), (69, .goto (-21), 72)] : List (Nat × Instr × Nat)), il_178.lookup e.1 = some e.2 := by decide +kernel
theorem bo_178_0_264884 : ∀ e ∈ ([(0, .aload_n 0, 1), (1, .iload_n 1, 2)] : List (Nat × Instr × Nat)), il_178.lookup e.1 = some e.2 := by decide +kernel
theorem li_178_2 : il_178.lookup 2 = some (.invokevirtual 377, 5) := by decide +kernel
theorem li_178_5 : il_178.lookup 5 = some (.ifCond .eq 7, 8) := by decide +kernel
theorem bo_178_12_d0d0c9 : ∀ e ∈ ([(12, .ldc_w 309, 15)] : List (Nat × Instr × Nat)), il_178.lookup e.1 = some e.2 := by decide +kernel
theorem li_178_15 : il_178.lookup 15 = some (.ireturn, 16) := by decide +kernel
theorem bo_178_8_383530 : ∀ e ∈ ([(8, .iload_n 1, 9)] : List (Nat × Instr × Nat)), il_178.lookup e.1 = some e.2 := by decide +kernel
theorem li_178_9 : il_178.lookup 9 = some (.ifCond .ne 7, 12) := by decide +kernel
theorem bo_178_16_91f0a1 : ∀ e ∈ ([(16, .iload_n 2, 17), (17, .iconst 1, 18), (18, .iconst 3, 19)] : List (Nat × Instr × Nat)), il_178.lookup e.1 = some e.2 := by decide +kernel
theorem li_178_19 : il_178.lookup 19 = some (.invokestatic 203, 22) := by decide +kernel
theorem li_178_22 : il_178.lookup 22 = some (.ifCond .ne 6, 25) := by decide +kernel
theorem bo_178_28_533662 : ∀ e ∈ ([(28, .aload_n 0, 29), (29, .dup, 30)] : List (Nat × Instr × Nat)), il_178.lookup e.1 = some e.2 := by decide +kernel
theorem li_178_30 : il_178.lookup 30 = some (.getfield 256, 33) := by decide +kernel
theorem bo_178_33_9ed66c : ∀ e ∈ ([(33, .iconst 1, 34), (34, .iadd, 35)] : List (Nat × Instr × Nat)), il_178.lookup e.1 = some e.2 := by decide +kernel
theorem li_178_35 : il_178.lookup 35 = some (.putfield 256, 38) := by decide +kernel
theorem bo_178_38_c8c763 : ∀ e ∈ ([(38, .aload_n 0, 39)] : List (Nat × Instr × Nat)), il_178.lookup e.1 = some e.2 := by decide +kernel
theorem li_178_39 : il_178.lookup 39 = some (.getfield 22, 42) := by decide +kernel
theorem bo_178_42_b358e7 : ∀ e ∈ ([(42, .iload_n 1, 43)] : List (Nat × Instr × Nat)), il_178.lookup e.1 = some e.2 := by decide +kernel
theorem li_178_43 : il_178.lookup 43 = some (.iaload, 44) := by decide +kernel
theorem bo_178_44_d9f6f2 : ∀ e ∈ ([(44, .istore_n 3, 45), (45, .iconst 0, 46), (46, .istore 4, 48)] : List (Nat × Instr × Nat)), il_178.lookup e.1 = some e.2 := by decide +kernel
theorem bo_178_25_1858f6 : ∀ e ∈ ([(25, .ldc 207, 27)] : List (Nat × Instr × Nat)), il_178.lookup e.1 = some e.2 := by decide +kernel
theorem li_178_27 : il_178.lookup 27 = some (.ireturn, 28) := by decide +kernel
theorem bo_179_41_8598b5 : ∀ e ∈ ([(41, .iinc 4 1, 44), (44, .goto (-31), 47)] : List (Nat × Instr × Nat)), il_179.lookup e.1 = some e.2 := by decide +kernel
theorem bo_179_13_839647 : ∀ e ∈ ([(13, .iload 4, 15), (15, .iload_n 3, 16)] : List (Nat × Instr × Nat)), il_179.lookup e.1 = some e.2 := by decide +kernel
theorem li_179_16 : il_179.lookup 16 = some (.if_icmp .ge 31, 19) := by decide +kernel
theorem bo_179_47_d7fa8e : ∀ e ∈ ([(47, .iload_n 1, 48)] : List (Nat × Instr × Nat)), il_179.lookup e.1 = some e.2 := by decide +kernel
theorem li_179_48 : il_179.lookup 48 = some (.ireturn, 49) := by decide +kernel
theorem bo_179_19_643a70 : ∀ e ∈ ([(19, .aload_n 2, 20), (20, .iload 4, 22)] : List (Nat × Instr × Nat)), il_179.lookup e.1 = some e.2 := by decide +kernel
theorem li_179_22 : il_179.lookup 22 = some (.aaload, 23) := by decide +kernel
theorem bo_179_23_a829ca : ∀ e ∈ ([(23, .astore 5, 25), (25, .aload 5, 27), (27, .ifnull 14, 30), (30, .iload_n 1, 31), (31, .aload 5, 33)] : List (Nat × Instr × Nat)), il_179.lookup e.1 = some e.2 := by decide +kernel
theorem li_179_33 : il_179.lookup 33 = some (.getfield 165, 36) := by decide +kernel
theorem li_179_36 : il_179.lookup 36 = some (.getfield 156, 39) := by decide +kernel
theorem bo_179_39_9c41c6 : ∀ e ∈ ([(39, .iadd, 40), (40, .istore_n 1, 41)] : List (Nat × Instr × Nat)), il_179.lookup e.1 = some e.2 := by decide +kernel
theorem bo_179_0_8b3750 : ∀ e ∈ ([(0, .iconst 0, 1), (1, .istore_n 1, 2), (2, .aload_n 0, 3)] : List (Nat × Instr × Nat)), il_179.lookup e.1 = some e.2 := by decide +kernel
theorem li_179_3 : il_179.lookup 3 = some (.getfield 35, 6) := by decide +kernel
theorem bo_179_6_e618ed : ∀ e ∈ ([(6, .astore_n 2, 7), (7, .aload_n 2, 8)] : List (Nat × Instr × Nat)), il_179.lookup e.1 = some e.2 := by decide +kernel
theorem li_179_8 : il_179.lookup 8 = some (.arraylength, 9) := by decide +kernel
theorem bo_179_9_94b225 : ∀ e ∈ ([(9, .istore_n 3, 10), (10, .iconst 0, 11), (11, .istore 4, 13)] : List (Nat × Instr × Nat)), il_179.lookup e.1 = some e.2 := by decide +kernel
theorem bo_180_15_d45c32 : ∀ e ∈ ([(15, .iload_n 3, 16), (16, .bipush 16, 18)] : List (Nat × Instr × Nat)), il_180.lookup e.1 = some e.2 := by decide +kernel
theorem li_180_18 : il_180.lookup 18 = some (.if_icmp .ge 24, 21) := by decide +kernel
theorem bo_180_42_b358e7 : ∀ e ∈ ([(42, .iload_n 2, 43)] : List (Nat × Instr × Nat)), il_180.lookup e.1 = some e.2 := by decide +kernel
theorem li_180_43 : il_180.lookup 43 = some (.ireturn, 44) := by decide +kernel
theorem bo_180_21_651ecd : ∀ e ∈ ([(21, .aload_n 1, 22), (22, .ifnull 20, 25), (42, .iload_n 2, 43)] : List (Nat × Instr × Nat)), il_180.lookup e.1 = some e.2 := by decide +kernel
theorem bo_180_21_0a1f26 : ∀ e ∈ ([(21, .aload_n 1, 22), (22, .ifnull 20, 25), (25, .iload_n 2, 26), (26, .aload_n 1, 27)] : List (Nat × Instr × Nat)), il_180.lookup e.1 = some e.2 := by decide +kernel
theorem li_180_27 : il_180.lookup 27 = some (.getfield 171, 30) := by decide +kernel
theorem bo_180_30_0b4e4a : ∀ e ∈ ([(30, .iload_n 3, 31)] : List (Nat × Instr × Nat)), il_180.lookup e.1 = some e.2 := by decide +kernel
theorem li_180_31 : il_180.lookup 31 = some (.invokevirtual 175, 34) := by decide +kernel
theorem bo_180_34_ef95d3 : ∀ e ∈ ([(34, .iadd, 35), (35, .istore_n 2, 36), (36, .iinc 3 1, 39), (39, .goto (-24), 42)] : List (Nat × Instr × Nat)), il_180.lookup e.1 = some e.2 := by decide +kernel
theorem bo_180_0_264884 : ∀ e ∈ ([(0, .aload_n 0, 1), (1, .aload_n 0, 2)] : List (Nat × Instr × Nat)), il_180.lookup e.1 = some e.2 := by decide +kernel
theorem li_180_2 : il_180.lookup 2 = some (.getfield 50, 5) := by decide +kernel
theorem bo_180_5_ca77c4 : ∀ e ∈ ([(5, .iconst 1, 6), (6, .iadd, 7)] : List (Nat × Instr × Nat)), il_180.lookup e.1 = some e.2 := by decide +kernel
theorem li_180_7 : il_180.lookup 7 = some (.invokevirtual 54, 10) := by decide +kernel
theorem bo_180_10_326e4c : ∀ e ∈ ([(10, .astore_n 1, 11), (11, .iconst 0, 12), (12, .istore_n 2, 13), (13, .iconst 0, 14), (14, .istore_n 3, 15)] : List (Nat × Instr × Nat)), il_180.lookup e.1 = some e.2 := by decide +kernel
theorem bo_181_0_8d5162 : ∀ e ∈ ([(0, .iload_n 1, 1)] : List (Nat × Instr × Nat)), il_181.lookup e.1 = some e.2 := by decide +kernel
theorem li_181_1 : il_181.lookup 1 = some (.tableswitch 140 0 9 #[55, 65, 76, 84, 92, 100, 108, 116, 124, 132], 56) := by decide +kernel
theorem bo_181_56_350148 : ∀ e ∈ ([(56, .aload_n 0, 57)] : List (Nat × Instr × Nat)), il_181.lookup e.1 = some e.2 := by decide +kernel
theorem li_181_57 : il_181.lookup 57 = some (.getfield 31, 60) := by decide +kernel
theorem li_181_60 : il_181.lookup 60 = some (.getfield 80, 63) := by decide +kernel
theorem bo_181_63_92b333 : ∀ e ∈ ([(63, .iconst 2, 64), (64, .iadd, 65)] : List (Nat × Instr × Nat)), il_181.lookup e.1 = some e.2 := by decide +kernel
theorem li_181_65 : il_181.lookup 65 = some (.ireturn, 66) := by decide +kernel
theorem bo_181_66_831ba3 : ∀ e ∈ ([(66, .aload_n 0, 67)] : List (Nat × Instr × Nat)), il_181.lookup e.1 = some e.2 := by decide +kernel
theorem li_181_67 : il_181.lookup 67 = some (.getfield 31, 70) := by decide +kernel
theorem li_181_70 : il_181.lookup 70 = some (.getfield 101, 73) := by decide +kernel
theorem li_181_73 : il_181.lookup 73 = some (.getfield 105, 76) := by decide +kernel
theorem li_181_76 : il_181.lookup 76 = some (.ireturn, 77) := by decide +kernel
theorem bo_181_77_9a98ff : ∀ e ∈ ([(77, .aload_n 0, 78)] : List (Nat × Instr × Nat)), il_181.lookup e.1 = some e.2 := by decide +kernel
theorem li_181_78 : il_181.lookup 78 = some (.getfield 31, 81) := by decide +kernel
theorem li_181_81 : il_181.lookup 81 = some (.getfield 142, 84) := by decide +kernel
theorem li_181_84 : il_181.lookup 84 = some (.ireturn, 85) := by decide +kernel
theorem bo_181_85_4765e0 : ∀ e ∈ ([(85, .aload_n 0, 86)] : List (Nat × Instr × Nat)), il_181.lookup e.1 = some e.2 := by decide +kernel
theorem li_181_86 : il_181.lookup 86 = some (.getfield 31, 89) := by decide +kernel
theorem li_181_89 : il_181.lookup 89 = some (.getfield 145, 92) := by decide +kernel
theorem li_181_92 : il_181.lookup 92 = some (.ireturn, 93) := by decide +kernel
theorem bo_181_93_7021a1 : ∀ e ∈ ([(93, .aload_n 0, 94)] : List (Nat × Instr × Nat)), il_181.lookup e.1 = some e.2 := by decide +kernel
theorem li_181_94 : il_181.lookup 94 = some (.getfield 31, 97) := by decide +kernel
theorem li_181_97 : il_181.lookup 97 = some (.getfield 130, 100) := by decide +kernel
theorem li_181_100 : il_181.lookup 100 = some (.ireturn, 101) := by decide +kernel
theorem bo_181_101_9e3292 : ∀ e ∈ ([(101, .aload_n 0, 102)] : List (Nat × Instr × Nat)), il_181.lookup e.1 = some e.2 := by decide +kernel
theorem li_181_102 : il_181.lookup 102 = some (.getfield 31, 105) := by decide +kernel
theorem li_181_105 : il_181.lookup 105 = some (.getfield 120, 108) := by decide +kernel
theorem li_181_108 : il_181.lookup 108 = some (.ireturn, 109) := by decide +kernel
theorem bo_181_109_9ce450 : ∀ e ∈ ([(109, .aload_n 0, 110)] : List (Nat × Instr × Nat)), il_181.lookup e.1 = some e.2 := by decide +kernel
theorem li_181_110 : il_181.lookup 110 = some (.getfield 31, 113) := by decide +kernel
theorem li_181_113 : il_181.lookup 113 = some (.getfield 148, 116) := by decide +kernel
theorem li_181_116 : il_181.lookup 116 = some (.ireturn, 117) := by decide +kernel
theorem bo_181_117_f55cfa : ∀ e ∈ ([(117, .aload_n 0, 118)] : List (Nat × Instr × Nat)), il_181.lookup e.1 = some e.2 := by decide +kernel
theorem li_181_118 : il_181.lookup 118 = some (.getfield 31, 121) := by decide +kernel
theorem li_181_121 : il_181.lookup 121 = some (.invokevirtual 151, 124) := by decide +kernel
theorem li_181_124 : il_181.lookup 124 = some (.ireturn, 125) := by decide +kernel
theorem bo_181_125_bc72fa : ∀ e ∈ ([(125, .aload_n 0, 126)] : List (Nat × Instr × Nat)), il_181.lookup e.1 = some e.2 := by decide +kernel
theorem li_181_126 : il_181.lookup 126 = some (.getfield 31, 129) := by decide +kernel
theorem li_181_129 : il_181.lookup 129 = some (.invokevirtual 154, 132) := by decide +kernel
theorem li_181_132 : il_181.lookup 132 = some (.ireturn, 133) := by decide +kernel
theorem bo_181_133_fe448f : ∀ e ∈ ([(133, .aload_n 0, 134)] : List (Nat × Instr × Nat)), il_181.lookup e.1 = some e.2 := by decide +kernel
theorem li_181_134 : il_181.lookup 134 = some (.getfield 31, 137) := by decide +kernel
theorem li_181_137 : il_181.lookup 137 = some (.invokevirtual 157, 140) := by decide +kernel
theorem li_181_140 : il_181.lookup 140 = some (.ireturn, 141) := by decide +kernel
theorem bo_181_141_b0c808 : ∀ e ∈ ([(141, .ldc 51, 143)] : List (Nat × Instr × Nat)), il_181.lookup e.1 = some e.2 := by decide +kernel
theorem li_181_143 : il_181.lookup 143 = some (.ireturn, 144) := by decide +kernel
theorem bo_182_54_b69876 : ∀ e ∈ ([(54, .iadd, 55), (55, .istore_n 2, 56), (56, .iinc 3 1, 59), (59, .goto (-43), 62)] : List (Nat × Instr × Nat)), il_182.lookup e.1 = some e.2 := by decide +kernel
theorem bo_182_16_f4f9fa : ∀ e ∈ ([(16, .iload_n 3, 17), (17, .aload_n 0, 18)] : List (Nat × Instr × Nat)), il_182.lookup e.1 = some e.2 := by decide +kernel
theorem li_182_18 : il_182.lookup 18 = some (.getfield 129, 21) := by decide +kernel
theorem bo_182_21_46c79c : ∀ e ∈ ([(21, .iload_n 1, 22)] : List (Nat × Instr × Nat)), il_182.lookup e.1 = some e.2 := by decide +kernel
theorem li_182_22 : il_182.lookup 22 = some (.iaload, 23) := by decide +kernel
theorem li_182_23 : il_182.lookup 23 = some (.if_icmp .ge 39, 26) := by decide +kernel
theorem bo_182_62_13a257 : ∀ e ∈ ([(62, .iload_n 2, 63)] : List (Nat × Instr × Nat)), il_182.lookup e.1 = some e.2 := by decide +kernel
theorem li_182_63 : il_182.lookup 63 = some (.ireturn, 64) := by decide +kernel
theorem bo_182_26_539da0 : ∀ e ∈ ([(26, .iload_n 2, 27), (27, .aload_n 0, 28)] : List (Nat × Instr × Nat)), il_182.lookup e.1 = some e.2 := by decide +kernel
theorem li_182_28 : il_182.lookup 28 = some (.getfield 135, 31) := by decide +kernel
theorem bo_182_31_545581 : ∀ e ∈ ([(31, .iconst 4, 32), (32, .iload_n 1, 33), (33, .imul, 34), (34, .iload_n 3, 35), (35, .iadd, 36)] : List (Nat × Instr × Nat)), il_182.lookup e.1 = some e.2 := by decide +kernel
theorem li_182_36 : il_182.lookup 36 = some (.iaload, 37) := by decide +kernel
theorem li_182_37 : il_182.lookup 37 = some (.ifCond .le 16, 40) := by decide +kernel
theorem bo_182_53_a422c0 : ∀ e ∈ ([(53, .iconst 0, 54)] : List (Nat × Instr × Nat)), il_182.lookup e.1 = some e.2 := by decide +kernel
theorem bo_182_40_d0cc5b : ∀ e ∈ ([(40, .aload_n 0, 41)] : List (Nat × Instr × Nat)), il_182.lookup e.1 = some e.2 := by decide +kernel
theorem li_182_41 : il_182.lookup 41 = some (.getfield 135, 44) := by decide +kernel
theorem bo_182_44_d467af : ∀ e ∈ ([(44, .iconst 4, 45), (45, .iload_n 1, 46), (46, .imul, 47), (47, .iload_n 3, 48), (48, .iadd, 49)] : List (Nat × Instr × Nat)), il_182.lookup e.1 = some e.2 := by decide +kernel
theorem li_182_49 : il_182.lookup 49 = some (.iaload, 50) := by decide +kernel
theorem bo_182_50_8a8783 : ∀ e ∈ ([(50, .goto 4, 53)] : List (Nat × Instr × Nat)), il_182.lookup e.1 = some e.2 := by decide +kernel
theorem bo_182_0_8d5162 : ∀ e ∈ ([(0, .aload_n 0, 1)] : List (Nat × Instr × Nat)), il_182.lookup e.1 = some e.2 := by decide +kernel
theorem li_182_1 : il_182.lookup 1 = some (.getfield 114, 4) := by decide +kernel
theorem bo_182_4_e962e2 : ∀ e ∈ ([(4, .iload_n 1, 5)] : List (Nat × Instr × Nat)), il_182.lookup e.1 = some e.2 := by decide +kernel
theorem li_182_5 : il_182.lookup 5 = some (.iaload, 6) := by decide +kernel
theorem bo_182_6_907e54 : ∀ e ∈ ([(6, .aload_n 0, 7)] : List (Nat × Instr × Nat)), il_182.lookup e.1 = some e.2 := by decide +kernel
theorem li_182_7 : il_182.lookup 7 = some (.getfield 132, 10) := by decide +kernel
theorem bo_182_10_2a30f5 : ∀ e ∈ ([(10, .iload_n 1, 11)] : List (Nat × Instr × Nat)), il_182.lookup e.1 = some e.2 := by decide +kernel
theorem li_182_11 : il_182.lookup 11 = some (.iaload, 12) := by decide +kernel
theorem bo_182_12_011d94 : ∀ e ∈ ([(12, .isub, 13), (13, .istore_n 2, 14), (14, .iconst 0, 15), (15, .istore_n 3, 16)] : List (Nat × Instr × Nat)), il_182.lookup e.1 = some e.2 := by decide +kernel
theorem bo_183_107_68dab3 : ∀ e ∈ ([(107, .iload_n 3, 108), (108, .bipush 54, 110)] : List (Nat × Instr × Nat)), il_183.lookup e.1 = some e.2 := by decide +kernel
theorem li_183_110 : il_183.lookup 110 = some (.if_icmp .ge 17, 113) := by decide +kernel
theorem bo_183_127_244a0d : ∀ e ∈ ([(127, .iload_n 2, 128)] : List (Nat × Instr × Nat)), il_183.lookup e.1 = some e.2 := by decide +kernel
theorem li_183_128 : il_183.lookup 128 = some (.ireturn, 129) := by decide +kernel
theorem bo_183_113_0feca2 : ∀ e ∈ ([(113, .iload_n 2, 114), (114, .aload_n 0, 115), (115, .iload_n 3, 116)] : List (Nat × Instr × Nat)), il_183.lookup e.1 = some e.2 := by decide +kernel
theorem li_183_116 : il_183.lookup 116 = some (.invokevirtual 380, 119) := by decide +kernel
theorem bo_183_119_ded126 : ∀ e ∈ ([(119, .iadd, 120), (120, .istore_n 2, 121), (121, .iinc 3 1, 124), (124, .goto (-17), 127)] : List (Nat × Instr × Nat)), il_183.lookup e.1 = some e.2 := by decide +kernel
theorem bo_183_131_020aa4 : ∀ e ∈ ([(131, .iload_n 3, 132), (132, .bipush 18, 134)] : List (Nat × Instr × Nat)), il_183.lookup e.1 = some e.2 := by decide +kernel
theorem li_183_134 : il_183.lookup 134 = some (.if_icmp .ge 18, 137) := by decide +kernel
theorem bo_183_152_675174 : ∀ e ∈ ([(152, .iload_n 2, 153)] : List (Nat × Instr × Nat)), il_183.lookup e.1 = some e.2 := by decide +kernel
theorem li_183_153 : il_183.lookup 153 = some (.ireturn, 154) := by decide +kernel
theorem bo_183_137_4ee428 : ∀ e ∈ ([(137, .iload_n 2, 138), (138, .aload_n 0, 139)] : List (Nat × Instr × Nat)), il_183.lookup e.1 = some e.2 := by decide +kernel
theorem li_183_139 : il_183.lookup 139 = some (.getfield 93, 142) := by decide +kernel
theorem bo_183_142_5324d1 : ∀ e ∈ ([(142, .iload_n 3, 143)] : List (Nat × Instr × Nat)), il_183.lookup e.1 = some e.2 := by decide +kernel
theorem li_183_143 : il_183.lookup 143 = some (.iaload, 144) := by decide +kernel
theorem bo_183_144_97ec55 : ∀ e ∈ ([(144, .iadd, 145), (145, .istore_n 2, 146), (146, .iinc 3 1, 149), (149, .goto (-18), 152)] : List (Nat × Instr × Nat)), il_183.lookup e.1 = some e.2 := by decide +kernel
theorem bo_183_198_cb4bae : ∀ e ∈ ([(198, .iadd, 199), (199, .istore_n 2, 200), (200, .iinc 3 1, 203), (203, .goto (-47), 206)] : List (Nat × Instr × Nat)), il_183.lookup e.1 = some e.2 := by decide +kernel
theorem bo_183_156_510bac : ∀ e ∈ ([(156, .iload_n 3, 157), (157, .bipush 16, 159)] : List (Nat × Instr × Nat)), il_183.lookup e.1 = some e.2 := by decide +kernel
theorem li_183_159 : il_183.lookup 159 = some (.if_icmp .ge 47, 162) := by decide +kernel
theorem bo_183_206_1365ed : ∀ e ∈ ([(206, .iload_n 2, 207)] : List (Nat × Instr × Nat)), il_183.lookup e.1 = some e.2 := by decide +kernel
theorem li_183_207 : il_183.lookup 207 = some (.ireturn, 208) := by decide +kernel
theorem bo_183_162_c37773 : ∀ e ∈ ([(162, .iload_n 2, 163), (163, .aload_n 0, 164)] : List (Nat × Instr × Nat)), il_183.lookup e.1 = some e.2 := by decide +kernel
theorem li_183_164 : il_183.lookup 164 = some (.getfield 56, 167) := by decide +kernel
theorem bo_183_167_902ace : ∀ e ∈ ([(167, .bipush 16, 169), (169, .aload_n 0, 170)] : List (Nat × Instr × Nat)), il_183.lookup e.1 = some e.2 := by decide +kernel
theorem li_183_170 : il_183.lookup 170 = some (.invokevirtual 199, 173) := by decide +kernel
theorem bo_183_173_ca712b : ∀ e ∈ ([(173, .imul, 174), (174, .iload_n 3, 175), (175, .iadd, 176)] : List (Nat × Instr × Nat)), il_183.lookup e.1 = some e.2 := by decide +kernel
theorem li_183_176 : il_183.lookup 176 = some (.baload, 177) := by decide +kernel
theorem li_183_177 : il_183.lookup 177 = some (.ifCond .eq 20, 180) := by decide +kernel
theorem bo_183_197_f35caa : ∀ e ∈ ([(197, .iconst 0, 198)] : List (Nat × Instr × Nat)), il_183.lookup e.1 = some e.2 := by decide +kernel
theorem bo_183_180_b82c80 : ∀ e ∈ ([(180, .aload_n 0, 181)] : List (Nat × Instr × Nat)), il_183.lookup e.1 = some e.2 := by decide +kernel
theorem li_183_181 : il_183.lookup 181 = some (.getfield 75, 184) := by decide +kernel
theorem bo_183_184_6219d1 : ∀ e ∈ ([(184, .bipush 16, 186), (186, .aload_n 0, 187)] : List (Nat × Instr × Nat)), il_183.lookup e.1 = some e.2 := by decide +kernel
theorem li_183_187 : il_183.lookup 187 = some (.invokevirtual 199, 190) := by decide +kernel
theorem bo_183_190_2748b4 : ∀ e ∈ ([(190, .imul, 191), (191, .iload_n 3, 192), (192, .iadd, 193)] : List (Nat × Instr × Nat)), il_183.lookup e.1 = some e.2 := by decide +kernel
theorem li_183_193 : il_183.lookup 193 = some (.iaload, 194) := by decide +kernel
theorem bo_183_194_f156ea : ∀ e ∈ ([(194, .goto 4, 197)] : List (Nat × Instr × Nat)), il_183.lookup e.1 = some e.2 := by decide +kernel
theorem bo_183_0_8b3750 : ∀ e ∈ ([(0, .iload_n 1, 1), (1, .iconst 0, 2), (2, .bipush 9, 4)] : List (Nat × Instr × Nat)), il_183.lookup e.1 = some e.2 := by decide +kernel
theorem li_183_4 : il_183.lookup 4 = some (.invokestatic 203, 7) := by decide +kernel
theorem li_183_7 : il_183.lookup 7 = some (.ifCond .ne 6, 10) := by decide +kernel
theorem bo_183_13_ac7d50 : ∀ e ∈ ([(13, .iconst 0, 14), (14, .istore_n 2, 15), (15, .iload_n 1, 16)] : List (Nat × Instr × Nat)), il_183.lookup e.1 = some e.2 := by decide +kernel
theorem li_183_16 : il_183.lookup 16 = some (.tableswitch 138 0 8 #[52, 59, 64, 69, 74, 79, 84, 89, 113], 68) := by decide +kernel
theorem bo_183_68_7584e0 : ∀ e ∈ ([(68, .aload_n 0, 69)] : List (Nat × Instr × Nat)), il_183.lookup e.1 = some e.2 := by decide +kernel
theorem li_183_69 : il_183.lookup 69 = some (.getfield 196, 72) := by decide +kernel
theorem bo_183_72_215158 : ∀ e ∈ ([(72, .iconst 2, 73), (73, .iadd, 74)] : List (Nat × Instr × Nat)), il_183.lookup e.1 = some e.2 := by decide +kernel
theorem li_183_74 : il_183.lookup 74 = some (.ireturn, 75) := by decide +kernel
theorem bo_183_75_1f1f88 : ∀ e ∈ ([(75, .aload_n 0, 76)] : List (Nat × Instr × Nat)), il_183.lookup e.1 = some e.2 := by decide +kernel
theorem li_183_76 : il_183.lookup 76 = some (.getfield 275, 79) := by decide +kernel
theorem li_183_79 : il_183.lookup 79 = some (.ireturn, 80) := by decide +kernel
theorem bo_183_80_1d0e60 : ∀ e ∈ ([(80, .aload_n 0, 81)] : List (Nat × Instr × Nat)), il_183.lookup e.1 = some e.2 := by decide +kernel
theorem li_183_81 : il_183.lookup 81 = some (.getfield 271, 84) := by decide +kernel
theorem li_183_84 : il_183.lookup 84 = some (.ireturn, 85) := by decide +kernel
theorem bo_183_85_4765e0 : ∀ e ∈ ([(85, .aload_n 0, 86)] : List (Nat × Instr × Nat)), il_183.lookup e.1 = some e.2 := by decide +kernel
theorem li_183_86 : il_183.lookup 86 = some (.getfield 243, 89) := by decide +kernel
theorem li_183_89 : il_183.lookup 89 = some (.ireturn, 90) := by decide +kernel
theorem bo_183_90_d3b5bf : ∀ e ∈ ([(90, .aload_n 0, 91)] : List (Nat × Instr × Nat)), il_183.lookup e.1 = some e.2 := by decide +kernel
theorem li_183_91 : il_183.lookup 91 = some (.getfield 253, 94) := by decide +kernel
theorem li_183_94 : il_183.lookup 94 = some (.ireturn, 95) := by decide +kernel
theorem bo_183_95_076086 : ∀ e ∈ ([(95, .aload_n 0, 96)] : List (Nat × Instr × Nat)), il_183.lookup e.1 = some e.2 := by decide +kernel
theorem li_183_96 : il_183.lookup 96 = some (.getfield 268, 99) := by decide +kernel
theorem li_183_99 : il_183.lookup 99 = some (.ireturn, 100) := by decide +kernel
theorem bo_183_100_5dd146 : ∀ e ∈ ([(100, .aload_n 0, 101)] : List (Nat × Instr × Nat)), il_183.lookup e.1 = some e.2 := by decide +kernel
theorem li_183_101 : il_183.lookup 101 = some (.getfield 256, 104) := by decide +kernel
theorem li_183_104 : il_183.lookup 104 = some (.ireturn, 105) := by decide +kernel
theorem bo_183_105_306733 : ∀ e ∈ ([(105, .iconst 0, 106), (106, .istore_n 3, 107)] : List (Nat × Instr × Nat)), il_183.lookup e.1 = some e.2 := by decide +kernel
theorem bo_183_129_230927 : ∀ e ∈ ([(129, .iconst 0, 130), (130, .istore_n 3, 131)] : List (Nat × Instr × Nat)), il_183.lookup e.1 = some e.2 := by decide +kernel
theorem bo_183_154_fc1ee4 : ∀ e ∈ ([(154, .iconst 0, 155), (155, .istore_n 3, 156)] : List (Nat × Instr × Nat)), il_183.lookup e.1 = some e.2 := by decide +kernel
theorem bo_183_10_2a30f5 : ∀ e ∈ ([(10, .ldc 207, 12)] : List (Nat × Instr × Nat)), il_183.lookup e.1 = some e.2 := by decide +kernel
theorem li_183_12 : il_183.lookup 12 = some (.ireturn, 13) := by decide +kernel
theorem bo_184_0_8d5162 : ∀ e ∈ ([(0, .aload_n 0, 1)] : List (Nat × Instr × Nat)), il_184.lookup e.1 = some e.2 := by decide +kernel
theorem li_184_1 : il_184.lookup 1 = some (.getfield 31, 4) := by decide +kernel
theorem bo_184_4_e962e2 : ∀ e ∈ ([(4, .iload_n 1, 5)] : List (Nat × Instr × Nat)), il_184.lookup e.1 = some e.2 := by decide +kernel
theorem li_184_5 : il_184.lookup 5 = some (.invokevirtual 133, 8) := by decide +kernel
theorem bo_184_8_9f8e89 : ∀ e ∈ ([(8, .astore_n 3, 9), (9, .aload_n 3, 10), (10, .ifnonnull 6, 13), (13, .ldc 137, 15)] : List (Nat × Instr × Nat)), il_184.lookup e.1 = some e.2 := by decide +kernel
theorem li_184_15 : il_184.lookup 15 = some (.ireturn, 16) := by decide +kernel
theorem bo_184_8_20dc0f : ∀ e ∈ ([(8, .astore_n 3, 9), (9, .aload_n 3, 10), (10, .ifnonnull 6, 13), (16, .iload_n 2, 17)] : List (Nat × Instr × Nat)), il_184.lookup e.1 = some e.2 := by decide +kernel
theorem li_184_17 : il_184.lookup 17 = some (.tableswitch 87 0 7 #[47, 52, 57, 62, 67, 72, 77, 82], 64) := by decide +kernel
theorem bo_184_64_446f01 : ∀ e ∈ ([(64, .aload_n 3, 65)] : List (Nat × Instr × Nat)), il_184.lookup e.1 = some e.2 := by decide +kernel
theorem li_184_65 : il_184.lookup 65 = some (.getfield 160, 68) := by decide +kernel
theorem li_184_68 : il_184.lookup 68 = some (.ireturn, 69) := by decide +kernel
theorem bo_184_69_d2296b : ∀ e ∈ ([(69, .aload_n 3, 70)] : List (Nat × Instr × Nat)), il_184.lookup e.1 = some e.2 := by decide +kernel
theorem li_184_70 : il_184.lookup 70 = some (.getfield 165, 73) := by decide +kernel
theorem li_184_73 : il_184.lookup 73 = some (.ireturn, 74) := by decide +kernel
theorem bo_184_74_ac6591 : ∀ e ∈ ([(74, .aload_n 3, 75)] : List (Nat × Instr × Nat)), il_184.lookup e.1 = some e.2 := by decide +kernel
theorem li_184_75 : il_184.lookup 75 = some (.getfield 166, 78) := by decide +kernel
theorem li_184_78 : il_184.lookup 78 = some (.ireturn, 79) := by decide +kernel
theorem bo_184_79_febf86 : ∀ e ∈ ([(79, .aload_n 3, 80)] : List (Nat × Instr × Nat)), il_184.lookup e.1 = some e.2 := by decide +kernel
theorem li_184_80 : il_184.lookup 80 = some (.getfield 169, 83) := by decide +kernel
theorem li_184_83 : il_184.lookup 83 = some (.ireturn, 84) := by decide +kernel
theorem bo_184_84_8a7630 : ∀ e ∈ ([(84, .aload_n 3, 85)] : List (Nat × Instr × Nat)), il_184.lookup e.1 = some e.2 := by decide +kernel
theorem li_184_85 : il_184.lookup 85 = some (.getfield 172, 88) := by decide +kernel
theorem li_184_88 : il_184.lookup 88 = some (.ireturn, 89) := by decide +kernel
theorem bo_184_89_bbca9b : ∀ e ∈ ([(89, .aload_n 3, 90)] : List (Nat × Instr × Nat)), il_184.lookup e.1 = some e.2 := by decide +kernel
theorem li_184_90 : il_184.lookup 90 = some (.getfield 175, 93) := by decide +kernel
theorem li_184_93 : il_184.lookup 93 = some (.ireturn, 94) := by decide +kernel
theorem bo_184_94_6615ab : ∀ e ∈ ([(94, .aload_n 3, 95)] : List (Nat × Instr × Nat)), il_184.lookup e.1 = some e.2 := by decide +kernel
theorem li_184_95 : il_184.lookup 95 = some (.getfield 178, 98) := by decide +kernel
theorem li_184_98 : il_184.lookup 98 = some (.ireturn, 99) := by decide +kernel
theorem bo_184_99_e6cd5c : ∀ e ∈ ([(99, .aload_n 3, 100)] : List (Nat × Instr × Nat)), il_184.lookup e.1 = some e.2 := by decide +kernel
theorem li_184_100 : il_184.lookup 100 = some (.getfield 181, 103) := by decide +kernel
theorem li_184_103 : il_184.lookup 103 = some (.ireturn, 104) := by decide +kernel
theorem bo_184_104_a38d21 : ∀ e ∈ ([(104, .ldc 51, 106)] : List (Nat × Instr × Nat)), il_184.lookup e.1 = some e.2 := by decide +kernel
theorem li_184_106 : il_184.lookup 106 = some (.ireturn, 107) := by decide +kernel
theorem bo_185_0_264884 : ∀ e ∈ ([(0, .aload_n 0, 1), (1, .iload_n 1, 2)] : List (Nat × Instr × Nat)), il_185.lookup e.1 = some e.2 := by decide +kernel
theorem li_185_2 : il_185.lookup 2 = some (.invokevirtual 377, 5) := by decide +kernel
theorem li_185_5 : il_185.lookup 5 = some (.ifCond .ne 7, 8) := by decide +kernel
theorem bo_185_12_76c768 : ∀ e ∈ ([(12, .iload_n 2, 13), (13, .iconst 0, 14), (14, .bipush 7, 16)] : List (Nat × Instr × Nat)), il_185.lookup e.1 = some e.2 := by decide +kernel
theorem li_185_16 : il_185.lookup 16 = some (.invokestatic 203, 19) := by decide +kernel
theorem li_185_19 : il_185.lookup 19 = some (.ifCond .ne 6, 22) := by decide +kernel
theorem bo_185_25_1858f6 : ∀ e ∈ ([(25, .iload_n 2, 26)] : List (Nat × Instr × Nat)), il_185.lookup e.1 = some e.2 := by decide +kernel
theorem li_185_26 : il_185.lookup 26 = some (.tableswitch 91 0 6 #[42, 49, 56, 63, 70, 77, 84], 68) := by decide +kernel
theorem bo_185_68_7584e0 : ∀ e ∈ ([(68, .aload_n 0, 69)] : List (Nat × Instr × Nat)), il_185.lookup e.1 = some e.2 := by decide +kernel
theorem li_185_69 : il_185.lookup 69 = some (.getfield 13, 72) := by decide +kernel
theorem bo_185_72_c0ffc8 : ∀ e ∈ ([(72, .iload_n 1, 73)] : List (Nat × Instr × Nat)), il_185.lookup e.1 = some e.2 := by decide +kernel
theorem li_185_73 : il_185.lookup 73 = some (.iaload, 74) := by decide +kernel
theorem li_185_74 : il_185.lookup 74 = some (.ireturn, 75) := by decide +kernel
theorem bo_185_75_1f1f88 : ∀ e ∈ ([(75, .aload_n 0, 76)] : List (Nat × Instr × Nat)), il_185.lookup e.1 = some e.2 := by decide +kernel
theorem li_185_76 : il_185.lookup 76 = some (.getfield 22, 79) := by decide +kernel
theorem bo_185_79_febf86 : ∀ e ∈ ([(79, .iload_n 1, 80)] : List (Nat × Instr × Nat)), il_185.lookup e.1 = some e.2 := by decide +kernel
theorem li_185_80 : il_185.lookup 80 = some (.iaload, 81) := by decide +kernel
theorem li_185_81 : il_185.lookup 81 = some (.ireturn, 82) := by decide +kernel
theorem bo_185_82_d3719d : ∀ e ∈ ([(82, .aload_n 0, 83)] : List (Nat × Instr × Nat)), il_185.lookup e.1 = some e.2 := by decide +kernel
theorem li_185_83 : il_185.lookup 83 = some (.getfield 16, 86) := by decide +kernel
theorem bo_185_86_bff005 : ∀ e ∈ ([(86, .iload_n 1, 87)] : List (Nat × Instr × Nat)), il_185.lookup e.1 = some e.2 := by decide +kernel
theorem li_185_87 : il_185.lookup 87 = some (.iaload, 88) := by decide +kernel
theorem li_185_88 : il_185.lookup 88 = some (.ireturn, 89) := by decide +kernel
theorem bo_185_89_bbca9b : ∀ e ∈ ([(89, .aload_n 0, 90)] : List (Nat × Instr × Nat)), il_185.lookup e.1 = some e.2 := by decide +kernel
theorem li_185_90 : il_185.lookup 90 = some (.getfield 19, 93) := by decide +kernel
theorem bo_185_93_7021a1 : ∀ e ∈ ([(93, .iload_n 1, 94)] : List (Nat × Instr × Nat)), il_185.lookup e.1 = some e.2 := by decide +kernel
theorem li_185_94 : il_185.lookup 94 = some (.iaload, 95) := by decide +kernel
theorem li_185_95 : il_185.lookup 95 = some (.ireturn, 96) := by decide +kernel
theorem bo_185_96_2375ef : ∀ e ∈ ([(96, .aload_n 0, 97)] : List (Nat × Instr × Nat)), il_185.lookup e.1 = some e.2 := by decide +kernel
theorem li_185_97 : il_185.lookup 97 = some (.getfield 44, 100) := by decide +kernel
theorem bo_185_100_5dd146 : ∀ e ∈ ([(100, .iload_n 1, 101)] : List (Nat × Instr × Nat)), il_185.lookup e.1 = some e.2 := by decide +kernel
theorem li_185_101 : il_185.lookup 101 = some (.iaload, 102) := by decide +kernel
theorem li_185_102 : il_185.lookup 102 = some (.ireturn, 103) := by decide +kernel
theorem bo_185_103_98f00a : ∀ e ∈ ([(103, .aload_n 0, 104)] : List (Nat × Instr × Nat)), il_185.lookup e.1 = some e.2 := by decide +kernel
theorem li_185_104 : il_185.lookup 104 = some (.getfield 47, 107) := by decide +kernel
theorem bo_185_107_0ab20e : ∀ e ∈ ([(107, .iload_n 1, 108)] : List (Nat × Instr × Nat)), il_185.lookup e.1 = some e.2 := by decide +kernel
theorem li_185_108 : il_185.lookup 108 = some (.iaload, 109) := by decide +kernel
theorem li_185_109 : il_185.lookup 109 = some (.ireturn, 110) := by decide +kernel
theorem bo_185_110_d0a2fc : ∀ e ∈ ([(110, .aload_n 0, 111)] : List (Nat × Instr × Nat)), il_185.lookup e.1 = some e.2 := by decide +kernel
theorem li_185_111 : il_185.lookup 111 = some (.getfield 50, 114) := by decide +kernel
theorem bo_185_114_28d19b : ∀ e ∈ ([(114, .iload_n 1, 115)] : List (Nat × Instr × Nat)), il_185.lookup e.1 = some e.2 := by decide +kernel
theorem li_185_115 : il_185.lookup 115 = some (.iaload, 116) := by decide +kernel
theorem li_185_116 : il_185.lookup 116 = some (.ireturn, 117) := by decide +kernel
theorem bo_185_117_f55cfa : ∀ e ∈ ([(117, .aload_n 0, 118)] : List (Nat × Instr × Nat)), il_185.lookup e.1 = some e.2 := by decide +kernel
theorem li_185_118 : il_185.lookup 118 = some (.getfield 53, 121) := by decide +kernel
theorem bo_185_121_641af5 : ∀ e ∈ ([(121, .iload_n 1, 122)] : List (Nat × Instr × Nat)), il_185.lookup e.1 = some e.2 := by decide +kernel
theorem li_185_122 : il_185.lookup 122 = some (.iaload, 123) := by decide +kernel
theorem li_185_123 : il_185.lookup 123 = some (.ireturn, 124) := by decide +kernel
theorem bo_185_22_60ac31 : ∀ e ∈ ([(22, .ldc 207, 24)] : List (Nat × Instr × Nat)), il_185.lookup e.1 = some e.2 := by decide +kernel
theorem li_185_24 : il_185.lookup 24 = some (.ireturn, 25) := by decide +kernel
theorem bo_185_8_383530 : ∀ e ∈ ([(8, .ldc_w 309, 11)] : List (Nat × Instr × Nat)), il_185.lookup e.1 = some e.2 := by decide +kernel
theorem li_185_11 : il_185.lookup 11 = some (.ireturn, 12) := by decide +kernel
theorem bo_186_37_ff1056 : ∀ e ∈ ([(37, .iinc 3 1, 40), (40, .goto (-36), 43)] : List (Nat × Instr × Nat)), il_186.lookup e.1 = some e.2 := by decide +kernel
theorem bo_186_4_40e659 : ∀ e ∈ ([(4, .iload_n 3, 5), (5, .bipush 16, 7)] : List (Nat × Instr × Nat)), il_186.lookup e.1 = some e.2 := by decide +kernel
theorem li_186_7 : il_186.lookup 7 = some (.if_icmp .ge 36, 10) := by decide +kernel
theorem bo_186_43_d85b47 : ∀ e ∈ ([(43, .iload_n 2, 44)] : List (Nat × Instr × Nat)), il_186.lookup e.1 = some e.2 := by decide +kernel
theorem li_186_44 : il_186.lookup 44 = some (.ireturn, 45) := by decide +kernel
theorem bo_186_10_2a30f5 : ∀ e ∈ ([(10, .aload_n 0, 11)] : List (Nat × Instr × Nat)), il_186.lookup e.1 = some e.2 := by decide +kernel
theorem li_186_11 : il_186.lookup 11 = some (.getfield 20, 14) := by decide +kernel
theorem bo_186_14_3e81ce : ∀ e ∈ ([(14, .iload_n 3, 15)] : List (Nat × Instr × Nat)), il_186.lookup e.1 = some e.2 := by decide +kernel
theorem li_186_15 : il_186.lookup 15 = some (.invokevirtual 60, 18) := by decide +kernel
theorem li_186_18 : il_186.lookup 18 = some (.ifCond .eq 19, 21) := by decide +kernel
theorem bo_186_21_cd309e : ∀ e ∈ ([(21, .aload_n 0, 22), (22, .iload_n 3, 23), (23, .aload_n 0, 24)] : List (Nat × Instr × Nat)), il_186.lookup e.1 = some e.2 := by decide +kernel
theorem li_186_24 : il_186.lookup 24 = some (.getfield 57, 27) := by decide +kernel
theorem li_186_27 : il_186.lookup 27 = some (.invokevirtual 64, 30) := by decide +kernel
theorem bo_186_30_0b4e4a : ∀ e ∈ ([(30, .iload_n 1, 31)] : List (Nat × Instr × Nat)), il_186.lookup e.1 = some e.2 := by decide +kernel
theorem li_186_31 : il_186.lookup 31 = some (.if_icmp .ne 6, 34) := by decide +kernel
theorem bo_186_34_130638 : ∀ e ∈ ([(34, .iinc 2 1, 37)] : List (Nat × Instr × Nat)), il_186.lookup e.1 = some e.2 := by decide +kernel
theorem bo_186_0_5a4d31 : ∀ e ∈ ([(0, .iconst 0, 1), (1, .istore_n 2, 2), (2, .iconst 0, 3), (3, .istore_n 3, 4)] : List (Nat × Instr × Nat)), il_186.lookup e.1 = some e.2 := by decide +kernel
theorem bo_187_0_8d5162 : ∀ e ∈ ([(0, .aload_n 0, 1)] : List (Nat × Instr × Nat)), il_187.lookup e.1 = some e.2 := by decide +kernel
theorem li_187_1 : il_187.lookup 1 = some (.getfield 31, 4) := by decide +kernel
theorem bo_187_4_e962e2 : ∀ e ∈ ([(4, .iload_n 1, 5)] : List (Nat × Instr × Nat)), il_187.lookup e.1 = some e.2 := by decide +kernel
theorem li_187_5 : il_187.lookup 5 = some (.invokevirtual 133, 8) := by decide +kernel
theorem bo_187_8_61d989 : ∀ e ∈ ([(8, .astore 4, 10), (10, .aload_n 0, 11)] : List (Nat × Instr × Nat)), il_187.lookup e.1 = some e.2 := by decide +kernel
theorem li_187_11 : il_187.lookup 11 = some (.getfield 31, 14) := by decide +kernel
theorem bo_187_14_4d7356 : ∀ e ∈ ([(14, .iload_n 1, 15), (15, .iload_n 2, 16)] : List (Nat × Instr × Nat)), il_187.lookup e.1 = some e.2 := by decide +kernel
theorem li_187_16 : il_187.lookup 16 = some (.invokevirtual 184, 19) := by decide +kernel
theorem bo_187_19_9aede2 : ∀ e ∈ ([(19, .astore 5, 21), (21, .aload 4, 23), (23, .ifnull 8, 26), (31, .ldc 137, 33)] : List (Nat × Instr × Nat)), il_187.lookup e.1 = some e.2 := by decide +kernel
theorem li_187_33 : il_187.lookup 33 = some (.ireturn, 34) := by decide +kernel
theorem bo_187_19_7621b0 : ∀ e ∈ ([(19, .astore 5, 21), (21, .aload 4, 23), (23, .ifnull 8, 26), (26, .aload 5, 28), (28, .ifnonnull 6, 31), (31, .ldc 137, 33)] : List (Nat × Instr × Nat)), il_187.lookup e.1 = some e.2 := by decide +kernel
theorem bo_187_19_e4a365 : ∀ e ∈ ([(19, .astore 5, 21), (21, .aload 4, 23), (23, .ifnull 8, 26), (26, .aload 5, 28), (28, .ifnonnull 6, 31), (34, .iload_n 3, 35)] : List (Nat × Instr × Nat)), il_187.lookup e.1 = some e.2 := by decide +kernel
theorem li_187_35 : il_187.lookup 35 = some (.tableswitch 85 0 5 #[37, 46, 60, 66, 72, 78], 72) := by decide +kernel
theorem bo_187_72_c0ffc8 : ∀ e ∈ ([(72, .aload 5, 74)] : List (Nat × Instr × Nat)), il_187.lookup e.1 = some e.2 := by decide +kernel
theorem li_187_74 : il_187.lookup 74 = some (.getfield 188, 77) := by decide +kernel
theorem li_187_77 : il_187.lookup 77 = some (.getfield 105, 80) := by decide +kernel
theorem li_187_80 : il_187.lookup 80 = some (.ireturn, 81) := by decide +kernel
theorem bo_187_81_6cfd26 : ∀ e ∈ ([(81, .aload 5, 83)] : List (Nat × Instr × Nat)), il_187.lookup e.1 = some e.2 := by decide +kernel
theorem li_187_83 : il_187.lookup 83 = some (.getfield 193, 86) := by decide +kernel
theorem li_187_86 : il_187.lookup 86 = some (.ifCond .eq 7, 89) := by decide +kernel
theorem bo_187_93_7021a1 : ∀ e ∈ ([(93, .iconst 0, 94)] : List (Nat × Instr × Nat)), il_187.lookup e.1 = some e.2 := by decide +kernel
theorem li_187_94 : il_187.lookup 94 = some (.ireturn, 95) := by decide +kernel
theorem bo_187_89_e2064f : ∀ e ∈ ([(89, .iconst 1, 90), (90, .goto 4, 93)] : List (Nat × Instr × Nat)), il_187.lookup e.1 = some e.2 := by decide +kernel
theorem bo_187_95_076086 : ∀ e ∈ ([(95, .aload 5, 97)] : List (Nat × Instr × Nat)), il_187.lookup e.1 = some e.2 := by decide +kernel
theorem li_187_97 : il_187.lookup 97 = some (.getfield 196, 100) := by decide +kernel
theorem li_187_100 : il_187.lookup 100 = some (.ireturn, 101) := by decide +kernel
theorem bo_187_101_9e3292 : ∀ e ∈ ([(101, .aload 5, 103)] : List (Nat × Instr × Nat)), il_187.lookup e.1 = some e.2 := by decide +kernel
theorem li_187_103 : il_187.lookup 103 = some (.getfield 199, 106) := by decide +kernel
theorem li_187_106 : il_187.lookup 106 = some (.ireturn, 107) := by decide +kernel
theorem bo_187_107_0ab20e : ∀ e ∈ ([(107, .aload 5, 109)] : List (Nat × Instr × Nat)), il_187.lookup e.1 = some e.2 := by decide +kernel
theorem li_187_109 : il_187.lookup 109 = some (.getfield 202, 112) := by decide +kernel
theorem li_187_112 : il_187.lookup 112 = some (.ireturn, 113) := by decide +kernel
theorem bo_187_113_55d908 : ∀ e ∈ ([(113, .aload 4, 115), (115, .iload_n 2, 116)] : List (Nat × Instr × Nat)), il_187.lookup e.1 = some e.2 := by decide +kernel
theorem li_187_116 : il_187.lookup 116 = some (.invokevirtual 205, 119) := by decide +kernel
theorem li_187_119 : il_187.lookup 119 = some (.ireturn, 120) := by decide +kernel
theorem bo_187_120_9b2503 : ∀ e ∈ ([(120, .ldc 51, 122)] : List (Nat × Instr × Nat)), il_187.lookup e.1 = some e.2 := by decide +kernel
theorem li_187_122 : il_187.lookup 122 = some (.ireturn, 123) := by decide +kernel
theorem bo_188_52_ec7d93 : ∀ e ∈ ([(52, .iadd, 53), (53, .istore_n 3, 54), (54, .iinc 4 1, 57), (57, .goto (-52), 60)] : List (Nat × Instr × Nat)), il_188.lookup e.1 = some e.2 := by decide +kernel
theorem bo_188_51_93c172 : ∀ e ∈ ([(51, .iconst 0, 52)] : List (Nat × Instr × Nat)), il_188.lookup e.1 = some e.2 := by decide +kernel
theorem bo_188_5_b1d84f : ∀ e ∈ ([(5, .iload 4, 7), (7, .bipush 16, 9)] : List (Nat × Instr × Nat)), il_188.lookup e.1 = some e.2 := by decide +kernel
theorem li_188_9 : il_188.lookup 9 = some (.if_icmp .ge 51, 12) := by decide +kernel
theorem bo_188_60_1be089 : ∀ e ∈ ([(60, .iload_n 3, 61)] : List (Nat × Instr × Nat)), il_188.lookup e.1 = some e.2 := by decide +kernel
theorem li_188_61 : il_188.lookup 61 = some (.ireturn, 62) := by decide +kernel
theorem bo_188_12_1089ca : ∀ e ∈ ([(12, .aload_n 0, 13), (13, .iload_n 1, 14)] : List (Nat × Instr × Nat)), il_188.lookup e.1 = some e.2 := by decide +kernel
theorem li_188_14 : il_188.lookup 14 = some (.invokevirtual 281, 17) := by decide +kernel
theorem li_188_17 : il_188.lookup 17 = some (.ifCond .eq 43, 20) := by decide +kernel
theorem bo_188_20_aa2fda : ∀ e ∈ ([(20, .iload_n 3, 21), (21, .aload_n 0, 22)] : List (Nat × Instr × Nat)), il_188.lookup e.1 = some e.2 := by decide +kernel
theorem li_188_22 : il_188.lookup 22 = some (.getfield 56, 25) := by decide +kernel
theorem bo_188_25_964a1f : ∀ e ∈ ([(25, .bipush 16, 27), (27, .iload_n 1, 28), (28, .imul, 29), (29, .iload 4, 31), (31, .iadd, 32)] : List (Nat × Instr × Nat)), il_188.lookup e.1 = some e.2 := by decide +kernel
theorem li_188_32 : il_188.lookup 32 = some (.baload, 33) := by decide +kernel
theorem li_188_33 : il_188.lookup 33 = some (.ifCond .eq 18, 36) := by decide +kernel
theorem bo_188_36_279f11 : ∀ e ∈ ([(36, .aload_n 0, 37), (37, .iload_n 1, 38), (38, .iload 4, 40)] : List (Nat × Instr × Nat)), il_188.lookup e.1 = some e.2 := by decide +kernel
theorem li_188_40 : il_188.lookup 40 = some (.invokevirtual 285, 43) := by decide +kernel
theorem bo_188_43_d85b47 : ∀ e ∈ ([(43, .iload_n 2, 44)] : List (Nat × Instr × Nat)), il_188.lookup e.1 = some e.2 := by decide +kernel
theorem li_188_44 : il_188.lookup 44 = some (.if_icmp .ne 7, 47) := by decide +kernel
theorem bo_188_47_400428 : ∀ e ∈ ([(47, .iconst 1, 48), (48, .goto 4, 51)] : List (Nat × Instr × Nat)), il_188.lookup e.1 = some e.2 := by decide +kernel
theorem bo_188_0_5a4d31 : ∀ e ∈ ([(0, .iconst 0, 1), (1, .istore_n 3, 2), (2, .iconst 0, 3), (3, .istore 4, 5)] : List (Nat × Instr × Nat)), il_188.lookup e.1 = some e.2 := by decide +kernel
theorem bo_189_0_264884 : ∀ e ∈ ([(0, .aload_n 0, 1), (1, .iload_n 1, 2)] : List (Nat × Instr × Nat)), il_189.lookup e.1 = some e.2 := by decide +kernel
theorem li_189_2 : il_189.lookup 2 = some (.invokevirtual 377, 5) := by decide +kernel
theorem li_189_5 : il_189.lookup 5 = some (.ifCond .eq 19, 8) := by decide +kernel
theorem bo_189_24_99aa1d : ∀ e ∈ ([(24, .ldc_w 309, 27)] : List (Nat × Instr × Nat)), il_189.lookup e.1 = some e.2 := by decide +kernel
theorem li_189_27 : il_189.lookup 27 = some (.ireturn, 28) := by decide +kernel
theorem bo_189_8_325fca : ∀ e ∈ ([(8, .iload_n 2, 9), (9, .iconst 0, 10), (10, .aload_n 0, 11)] : List (Nat × Instr × Nat)), il_189.lookup e.1 = some e.2 := by decide +kernel
theorem li_189_11 : il_189.lookup 11 = some (.getfield 22, 14) := by decide +kernel
theorem bo_189_14_3e81ce : ∀ e ∈ ([(14, .iload_n 1, 15)] : List (Nat × Instr × Nat)), il_189.lookup e.1 = some e.2 := by decide +kernel
theorem li_189_15 : il_189.lookup 15 = some (.iaload, 16) := by decide +kernel
theorem bo_189_16_f4f9fa : ∀ e ∈ ([(16, .iconst 1, 17), (17, .isub, 18)] : List (Nat × Instr × Nat)), il_189.lookup e.1 = some e.2 := by decide +kernel
theorem li_189_18 : il_189.lookup 18 = some (.invokestatic 203, 21) := by decide +kernel
theorem li_189_21 : il_189.lookup 21 = some (.ifCond .ne 7, 24) := by decide +kernel
theorem bo_189_28_6102be : ∀ e ∈ ([(28, .iload_n 3, 29), (29, .iconst 0, 30), (30, .iconst 5, 31)] : List (Nat × Instr × Nat)), il_189.lookup e.1 = some e.2 := by decide +kernel
theorem li_189_31 : il_189.lookup 31 = some (.invokestatic 203, 34) := by decide +kernel
theorem li_189_34 : il_189.lookup 34 = some (.ifCond .ne 6, 37) := by decide +kernel
theorem bo_189_40_20557d : ∀ e ∈ ([(40, .iload_n 1, 41), (41, .iload_n 2, 42)] : List (Nat × Instr × Nat)), il_189.lookup e.1 = some e.2 := by decide +kernel
theorem li_189_42 : il_189.lookup 42 = some (.invokestatic 288, 45) := by decide +kernel
theorem bo_189_45_179650 : ∀ e ∈ ([(45, .istore 4, 47), (47, .iload_n 3, 48)] : List (Nat × Instr × Nat)), il_189.lookup e.1 = some e.2 := by decide +kernel
theorem li_189_48 : il_189.lookup 48 = some (.tableswitch 84 0 4 #[36, 44, 60, 68, 76], 84) := by decide +kernel
theorem bo_189_84_8a7630 : ∀ e ∈ ([(84, .aload_n 0, 85)] : List (Nat × Instr × Nat)), il_189.lookup e.1 = some e.2 := by decide +kernel
theorem li_189_85 : il_189.lookup 85 = some (.getfield 93, 88) := by decide +kernel
theorem bo_189_88_92252f : ∀ e ∈ ([(88, .iload 4, 90)] : List (Nat × Instr × Nat)), il_189.lookup e.1 = some e.2 := by decide +kernel
theorem li_189_90 : il_189.lookup 90 = some (.iaload, 91) := by decide +kernel
theorem li_189_91 : il_189.lookup 91 = some (.ireturn, 92) := by decide +kernel
theorem bo_189_92_b12865 : ∀ e ∈ ([(92, .aload_n 0, 93)] : List (Nat × Instr × Nat)), il_189.lookup e.1 = some e.2 := by decide +kernel
theorem li_189_93 : il_189.lookup 93 = some (.getfield 111, 96) := by decide +kernel
theorem bo_189_96_2375ef : ∀ e ∈ ([(96, .iload 4, 98)] : List (Nat × Instr × Nat)), il_189.lookup e.1 = some e.2 := by decide +kernel
theorem li_189_98 : il_189.lookup 98 = some (.baload, 99) := by decide +kernel
theorem li_189_99 : il_189.lookup 99 = some (.ifCond .eq 7, 102) := by decide +kernel
theorem bo_189_106_d939f7 : ∀ e ∈ ([(106, .iconst 0, 107)] : List (Nat × Instr × Nat)), il_189.lookup e.1 = some e.2 := by decide +kernel
theorem li_189_107 : il_189.lookup 107 = some (.ireturn, 108) := by decide +kernel
theorem bo_189_102_036f47 : ∀ e ∈ ([(102, .iconst 1, 103), (103, .goto 4, 106)] : List (Nat × Instr × Nat)), il_189.lookup e.1 = some e.2 := by decide +kernel
theorem bo_189_108_99d569 : ∀ e ∈ ([(108, .aload_n 0, 109)] : List (Nat × Instr × Nat)), il_189.lookup e.1 = some e.2 := by decide +kernel
theorem li_189_109 : il_189.lookup 109 = some (.getfield 105, 112) := by decide +kernel
theorem bo_189_112_a01649 : ∀ e ∈ ([(112, .iload 4, 114)] : List (Nat × Instr × Nat)), il_189.lookup e.1 = some e.2 := by decide +kernel
theorem li_189_114 : il_189.lookup 114 = some (.iaload, 115) := by decide +kernel
theorem li_189_115 : il_189.lookup 115 = some (.ireturn, 116) := by decide +kernel
theorem bo_189_116_8dd5ec : ∀ e ∈ ([(116, .aload_n 0, 117)] : List (Nat × Instr × Nat)), il_189.lookup e.1 = some e.2 := by decide +kernel
theorem li_189_117 : il_189.lookup 117 = some (.getfield 108, 120) := by decide +kernel
theorem bo_189_120_9b2503 : ∀ e ∈ ([(120, .iload 4, 122)] : List (Nat × Instr × Nat)), il_189.lookup e.1 = some e.2 := by decide +kernel
theorem li_189_122 : il_189.lookup 122 = some (.iaload, 123) := by decide +kernel
theorem li_189_123 : il_189.lookup 123 = some (.ireturn, 124) := by decide +kernel
theorem bo_189_124_f3e3e4 : ∀ e ∈ ([(124, .aload_n 0, 125)] : List (Nat × Instr × Nat)), il_189.lookup e.1 = some e.2 := by decide +kernel
theorem li_189_125 : il_189.lookup 125 = some (.getfield 84, 128) := by decide +kernel
theorem bo_189_128_5d5c9c : ∀ e ∈ ([(128, .iload 4, 130)] : List (Nat × Instr × Nat)), il_189.lookup e.1 = some e.2 := by decide +kernel
theorem li_189_130 : il_189.lookup 130 = some (.iaload, 131) := by decide +kernel
theorem li_189_131 : il_189.lookup 131 = some (.ireturn, 132) := by decide +kernel
theorem bo_189_132_e981cf : ∀ e ∈ ([(132, .aload_n 0, 133), (133, .iload_n 1, 134), (134, .iload_n 2, 135)] : List (Nat × Instr × Nat)), il_189.lookup e.1 = some e.2 := by decide +kernel
theorem li_189_135 : il_189.lookup 135 = some (.invokevirtual 383, 138) := by decide +kernel
theorem li_189_138 : il_189.lookup 138 = some (.ireturn, 139) := by decide +kernel
theorem bo_189_37_a21c9f : ∀ e ∈ ([(37, .ldc 207, 39)] : List (Nat × Instr × Nat)), il_189.lookup e.1 = some e.2 := by decide +kernel
theorem li_189_39 : il_189.lookup 39 = some (.ireturn, 40) := by decide +kernel
theorem bo_190_0_8d5162 : ∀ e ∈ ([(0, .aload_n 0, 1)] : List (Nat × Instr × Nat)), il_190.lookup e.1 = some e.2 := by decide +kernel
theorem li_190_1 : il_190.lookup 1 = some (.getfield 31, 4) := by decide +kernel
theorem bo_190_4_607491 : ∀ e ∈ ([(4, .iload_n 1, 5), (5, .iload_n 2, 6), (6, .iload_n 3, 7)] : List (Nat × Instr × Nat)), il_190.lookup e.1 = some e.2 := by decide +kernel
theorem li_190_7 : il_190.lookup 7 = some (.invokevirtual 209, 10) := by decide +kernel
theorem bo_190_10_e0bf99 : ∀ e ∈ ([(10, .astore 5, 12), (12, .aload 5, 14), (14, .ifnonnull 6, 17), (17, .ldc 137, 19)] : List (Nat × Instr × Nat)), il_190.lookup e.1 = some e.2 := by decide +kernel
theorem li_190_19 : il_190.lookup 19 = some (.ireturn, 20) := by decide +kernel
theorem bo_190_10_ff3309 : ∀ e ∈ ([(10, .astore 5, 12), (12, .aload 5, 14), (14, .ifnonnull 6, 17), (20, .iload 4, 22)] : List (Nat × Instr × Nat)), il_190.lookup e.1 = some e.2 := by decide +kernel
theorem li_190_22 : il_190.lookup 22 = some (.tableswitch 78 0 4 #[34, 40, 46, 55, 61], 56) := by decide +kernel
theorem bo_190_56_350148 : ∀ e ∈ ([(56, .aload 5, 58)] : List (Nat × Instr × Nat)), il_190.lookup e.1 = some e.2 := by decide +kernel
theorem li_190_58 : il_190.lookup 58 = some (.getfield 213, 61) := by decide +kernel
theorem li_190_61 : il_190.lookup 61 = some (.ireturn, 62) := by decide +kernel
theorem bo_190_62_13a257 : ∀ e ∈ ([(62, .aload 5, 64)] : List (Nat × Instr × Nat)), il_190.lookup e.1 = some e.2 := by decide +kernel
theorem li_190_64 : il_190.lookup 64 = some (.getfield 218, 67) := by decide +kernel
theorem li_190_67 : il_190.lookup 67 = some (.ireturn, 68) := by decide +kernel
theorem bo_190_68_7584e0 : ∀ e ∈ ([(68, .aload 5, 70)] : List (Nat × Instr × Nat)), il_190.lookup e.1 = some e.2 := by decide +kernel
theorem li_190_70 : il_190.lookup 70 = some (.getfield 221, 73) := by decide +kernel
theorem li_190_73 : il_190.lookup 73 = some (.getfield 105, 76) := by decide +kernel
theorem li_190_76 : il_190.lookup 76 = some (.ireturn, 77) := by decide +kernel
theorem bo_190_77_9a98ff : ∀ e ∈ ([(77, .aload 5, 79)] : List (Nat × Instr × Nat)), il_190.lookup e.1 = some e.2 := by decide +kernel
theorem li_190_79 : il_190.lookup 79 = some (.getfield 224, 82) := by decide +kernel
theorem li_190_82 : il_190.lookup 82 = some (.ireturn, 83) := by decide +kernel
theorem bo_190_83_dbc641 : ∀ e ∈ ([(83, .aload_n 0, 84)] : List (Nat × Instr × Nat)), il_190.lookup e.1 = some e.2 := by decide +kernel
theorem li_190_84 : il_190.lookup 84 = some (.getfield 31, 87) := by decide +kernel
theorem li_190_87 : il_190.lookup 87 = some (.getfield 88, 90) := by decide +kernel
theorem li_190_90 : il_190.lookup 90 = some (.getfield 227, 93) := by decide +kernel
theorem bo_190_93_7021a1 : ∀ e ∈ ([(93, .aload 5, 95)] : List (Nat × Instr × Nat)), il_190.lookup e.1 = some e.2 := by decide +kernel
theorem li_190_95 : il_190.lookup 95 = some (.getfield 213, 98) := by decide +kernel
theorem bo_190_98_9ec1f3 : ∀ e ∈ ([(98, .isub, 99)] : List (Nat × Instr × Nat)), il_190.lookup e.1 = some e.2 := by decide +kernel
theorem li_190_99 : il_190.lookup 99 = some (.ireturn, 100) := by decide +kernel
theorem bo_190_100_5dd146 : ∀ e ∈ ([(100, .ldc 51, 102)] : List (Nat × Instr × Nat)), il_190.lookup e.1 = some e.2 := by decide +kernel
theorem li_190_102 : il_190.lookup 102 = some (.ireturn, 103) := by decide +kernel
theorem bo_191_0_8b3750 : ∀ e ∈ ([(0, .iload_n 1, 1), (1, .iconst 0, 2), (2, .aload_n 0, 3)] : List (Nat × Instr × Nat)), il_191.lookup e.1 = some e.2 := by decide +kernel
theorem li_191_3 : il_191.lookup 3 = some (.getfield 196, 6) := by decide +kernel
theorem li_191_6 : il_191.lookup 6 = some (.invokestatic 203, 9) := by decide +kernel
theorem li_191_9 : il_191.lookup 9 = some (.ifCond .eq 37, 12) := by decide +kernel
theorem bo_191_46_4b02d4 : ∀ e ∈ ([(46, .ldc_w 309, 49)] : List (Nat × Instr × Nat)), il_191.lookup e.1 = some e.2 := by decide +kernel
theorem li_191_49 : il_191.lookup 49 = some (.ireturn, 50) := by decide +kernel
theorem bo_191_12_76c768 : ∀ e ∈ ([(12, .iload_n 2, 13), (13, .iconst 0, 14), (14, .aload_n 0, 15)] : List (Nat × Instr × Nat)), il_191.lookup e.1 = some e.2 := by decide +kernel
theorem li_191_15 : il_191.lookup 15 = some (.getfield 22, 18) := by decide +kernel
theorem bo_191_18_2b31d8 : ∀ e ∈ ([(18, .iload_n 1, 19)] : List (Nat × Instr × Nat)), il_191.lookup e.1 = some e.2 := by decide +kernel
theorem li_191_19 : il_191.lookup 19 = some (.iaload, 20) := by decide +kernel
theorem bo_191_20_aa2fda : ∀ e ∈ ([(20, .iconst 1, 21), (21, .isub, 22)] : List (Nat × Instr × Nat)), il_191.lookup e.1 = some e.2 := by decide +kernel
theorem li_191_22 : il_191.lookup 22 = some (.invokestatic 203, 25) := by decide +kernel
theorem li_191_25 : il_191.lookup 25 = some (.ifCond .eq 21, 28) := by decide +kernel
theorem bo_191_28_6102be : ∀ e ∈ ([(28, .iload_n 3, 29), (29, .iconst 0, 30), (30, .aload_n 0, 31)] : List (Nat × Instr × Nat)), il_191.lookup e.1 = some e.2 := by decide +kernel
theorem li_191_31 : il_191.lookup 31 = some (.getfield 22, 34) := by decide +kernel
theorem bo_191_34_8fe73d : ∀ e ∈ ([(34, .iload_n 1, 35), (35, .iconst 1, 36), (36, .iadd, 37)] : List (Nat × Instr × Nat)), il_191.lookup e.1 = some e.2 := by decide +kernel
theorem li_191_37 : il_191.lookup 37 = some (.iaload, 38) := by decide +kernel
theorem bo_191_38_ef227d : ∀ e ∈ ([(38, .iconst 1, 39), (39, .isub, 40)] : List (Nat × Instr × Nat)), il_191.lookup e.1 = some e.2 := by decide +kernel
theorem li_191_40 : il_191.lookup 40 = some (.invokestatic 203, 43) := by decide +kernel
theorem li_191_43 : il_191.lookup 43 = some (.ifCond .ne 7, 46) := by decide +kernel
theorem bo_191_50_566217 : ∀ e ∈ ([(50, .iload 4, 52), (52, .iconst 0, 53), (53, .iconst 4, 54)] : List (Nat × Instr × Nat)), il_191.lookup e.1 = some e.2 := by decide +kernel
theorem li_191_54 : il_191.lookup 54 = some (.invokestatic 203, 57) := by decide +kernel
theorem li_191_57 : il_191.lookup 57 = some (.ifCond .ne 6, 60) := by decide +kernel
theorem bo_191_63_f9b671 : ∀ e ∈ ([(63, .iload_n 1, 64), (64, .iload_n 2, 65), (65, .iload_n 3, 66)] : List (Nat × Instr × Nat)), il_191.lookup e.1 = some e.2 := by decide +kernel
theorem li_191_66 : il_191.lookup 66 = some (.invokestatic 324, 69) := by decide +kernel
theorem bo_191_69_8c58f6 : ∀ e ∈ ([(69, .istore 5, 71), (71, .iload 4, 73)] : List (Nat × Instr × Nat)), il_191.lookup e.1 = some e.2 := by decide +kernel
theorem li_191_73 : il_191.lookup 73 = some (.ifCond .ne 13, 76) := by decide +kernel
theorem bo_191_86_edb1b1 : ∀ e ∈ ([(86, .iload 4, 88), (88, .iconst 1, 89)] : List (Nat × Instr × Nat)), il_191.lookup e.1 = some e.2 := by decide +kernel
theorem li_191_89 : il_191.lookup 89 = some (.if_icmp .ne 13, 92) := by decide +kernel
theorem bo_191_102_95c474 : ∀ e ∈ ([(102, .iload 4, 104), (104, .iconst 2, 105)] : List (Nat × Instr × Nat)), il_191.lookup e.1 = some e.2 := by decide +kernel
theorem li_191_105 : il_191.lookup 105 = some (.if_icmp .ne 12, 108) := by decide +kernel
theorem bo_191_117_5014aa : ∀ e ∈ ([(117, .iload 4, 119), (119, .iconst 3, 120)] : List (Nat × Instr × Nat)), il_191.lookup e.1 = some e.2 := by decide +kernel
theorem li_191_120 : il_191.lookup 120 = some (.if_icmp .ne 13, 123) := by decide +kernel
theorem bo_191_133_fe448f : ∀ e ∈ ([(133, .aload_n 0, 134)] : List (Nat × Instr × Nat)), il_191.lookup e.1 = some e.2 := by decide +kernel
theorem li_191_134 : il_191.lookup 134 = some (.getfield 32, 137) := by decide +kernel
theorem bo_191_137_1c181f : ∀ e ∈ ([(137, .aload_n 0, 138)] : List (Nat × Instr × Nat)), il_191.lookup e.1 = some e.2 := by decide +kernel
theorem li_191_138 : il_191.lookup 138 = some (.getfield 129, 141) := by decide +kernel
theorem bo_191_141_b0c808 : ∀ e ∈ ([(141, .iload 5, 143)] : List (Nat × Instr × Nat)), il_191.lookup e.1 = some e.2 := by decide +kernel
theorem li_191_143 : il_191.lookup 143 = some (.iaload, 144) := by decide +kernel
theorem bo_191_144_163ff6 : ∀ e ∈ ([(144, .isub, 145)] : List (Nat × Instr × Nat)), il_191.lookup e.1 = some e.2 := by decide +kernel
theorem li_191_145 : il_191.lookup 145 = some (.ireturn, 146) := by decide +kernel
theorem bo_191_123_4951b9 : ∀ e ∈ ([(123, .aload_n 0, 124)] : List (Nat × Instr × Nat)), il_191.lookup e.1 = some e.2 := by decide +kernel
theorem li_191_124 : il_191.lookup 124 = some (.getfield 117, 127) := by decide +kernel
theorem bo_191_127_244a0d : ∀ e ∈ ([(127, .iload 5, 129)] : List (Nat × Instr × Nat)), il_191.lookup e.1 = some e.2 := by decide +kernel
theorem li_191_129 : il_191.lookup 129 = some (.iaload, 130) := by decide +kernel
theorem bo_191_130_8e4770 : ∀ e ∈ ([(130, .goto 15, 133)] : List (Nat × Instr × Nat)), il_191.lookup e.1 = some e.2 := by decide +kernel
theorem bo_191_108_15ff6a : ∀ e ∈ ([(108, .aload_n 0, 109), (109, .iload 5, 111)] : List (Nat × Instr × Nat)), il_191.lookup e.1 = some e.2 := by decide +kernel
theorem li_191_111 : il_191.lookup 111 = some (.invokevirtual 380, 114) := by decide +kernel
theorem bo_191_114_28d19b : ∀ e ∈ ([(114, .goto 31, 117)] : List (Nat × Instr × Nat)), il_191.lookup e.1 = some e.2 := by decide +kernel
theorem bo_191_92_b12865 : ∀ e ∈ ([(92, .aload_n 0, 93)] : List (Nat × Instr × Nat)), il_191.lookup e.1 = some e.2 := by decide +kernel
theorem li_191_93 : il_191.lookup 93 = some (.getfield 114, 96) := by decide +kernel
theorem bo_191_96_2375ef : ∀ e ∈ ([(96, .iload 5, 98)] : List (Nat × Instr × Nat)), il_191.lookup e.1 = some e.2 := by decide +kernel
theorem li_191_98 : il_191.lookup 98 = some (.iaload, 99) := by decide +kernel
theorem bo_191_99_e6cd5c : ∀ e ∈ ([(99, .goto 46, 102)] : List (Nat × Instr × Nat)), il_191.lookup e.1 = some e.2 := by decide +kernel
theorem bo_191_76_1522cc : ∀ e ∈ ([(76, .aload_n 0, 77)] : List (Nat × Instr × Nat)), il_191.lookup e.1 = some e.2 := by decide +kernel
theorem li_191_77 : il_191.lookup 77 = some (.getfield 129, 80) := by decide +kernel
theorem bo_191_80_1d0e60 : ∀ e ∈ ([(80, .iload 5, 82)] : List (Nat × Instr × Nat)), il_191.lookup e.1 = some e.2 := by decide +kernel
theorem li_191_82 : il_191.lookup 82 = some (.iaload, 83) := by decide +kernel
theorem bo_191_83_dbc641 : ∀ e ∈ ([(83, .goto 62, 86)] : List (Nat × Instr × Nat)), il_191.lookup e.1 = some e.2 := by decide +kernel
theorem bo_191_60_1be089 : ∀ e ∈ ([(60, .ldc 207, 62)] : List (Nat × Instr × Nat)), il_191.lookup e.1 = some e.2 := by decide +kernel
theorem li_191_62 : il_191.lookup 62 = some (.ireturn, 63) := by decide +kernel
theorem bo_192_33_1dc721 : ∀ e ∈ ([(33, .iload_n 2, 34)] : List (Nat × Instr × Nat)), il_192.lookup e.1 = some e.2 := by decide +kernel
theorem li_192_34 : il_192.lookup 34 = some (.ifCond .ne 11, 37) := by decide +kernel
theorem bo_192_45_b7d017 : ∀ e ∈ ([(45, .aload_n 0, 46), (46, .iload_n 1, 47)] : List (Nat × Instr × Nat)), il_192.lookup e.1 = some e.2 := by decide +kernel
theorem li_192_47 : il_192.lookup 47 = some (.invokevirtual 304, 50) := by decide +kernel
theorem li_192_50 : il_192.lookup 50 = some (.ireturn, 51) := by decide +kernel
theorem bo_192_37_b7e9cc : ∀ e ∈ ([(37, .aload_n 0, 38), (38, .iload_n 1, 39)] : List (Nat × Instr × Nat)), il_192.lookup e.1 = some e.2 := by decide +kernel
theorem li_192_39 : il_192.lookup 39 = some (.invokevirtual 301, 42) := by decide +kernel
theorem bo_192_42_b358e7 : ∀ e ∈ ([(42, .goto 8, 45)] : List (Nat × Instr × Nat)), il_192.lookup e.1 = some e.2 := by decide +kernel
theorem bo_192_0_8d5162 : ∀ e ∈ ([(0, .iload_n 1, 1)] : List (Nat × Instr × Nat)), il_192.lookup e.1 = some e.2 := by decide +kernel
theorem li_192_1 : il_192.lookup 1 = some (.ifCond .lt 17, 4) := by decide +kernel
theorem bo_192_18_2b31d8 : ∀ e ∈ ([(18, .ldc 137, 20)] : List (Nat × Instr × Nat)), il_192.lookup e.1 = some e.2 := by decide +kernel
theorem li_192_20 : il_192.lookup 20 = some (.ireturn, 21) := by decide +kernel
theorem bo_192_4_40e659 : ∀ e ∈ ([(4, .iload_n 1, 5), (5, .bipush 16, 7)] : List (Nat × Instr × Nat)), il_192.lookup e.1 = some e.2 := by decide +kernel
theorem li_192_7 : il_192.lookup 7 = some (.if_icmp .ge 11, 10) := by decide +kernel
theorem bo_192_10_42a704 : ∀ e ∈ ([(10, .aload_n 0, 11), (11, .iload_n 1, 12)] : List (Nat × Instr × Nat)), il_192.lookup e.1 = some e.2 := by decide +kernel
theorem li_192_12 : il_192.lookup 12 = some (.invokevirtual 295, 15) := by decide +kernel
theorem li_192_15 : il_192.lookup 15 = some (.ifCond .ne 6, 18) := by decide +kernel
theorem bo_192_21_46c79c : ∀ e ∈ ([(21, .iload_n 2, 22)] : List (Nat × Instr × Nat)), il_192.lookup e.1 = some e.2 := by decide +kernel
theorem li_192_22 : il_192.lookup 22 = some (.ifCond .eq 11, 25) := by decide +kernel
theorem bo_192_25_6328ed : ∀ e ∈ ([(25, .iload_n 2, 26), (26, .iconst 1, 27)] : List (Nat × Instr × Nat)), il_192.lookup e.1 = some e.2 := by decide +kernel
theorem li_192_27 : il_192.lookup 27 = some (.if_icmp .eq 6, 30) := by decide +kernel
theorem bo_192_30_0b4e4a : ∀ e ∈ ([(30, .ldc 51, 32)] : List (Nat × Instr × Nat)), il_192.lookup e.1 = some e.2 := by decide +kernel
theorem li_192_32 : il_192.lookup 32 = some (.ireturn, 33) := by decide +kernel
theorem bo_193_0_8d5162 : ∀ e ∈ ([(0, .aload_n 0, 1)] : List (Nat × Instr × Nat)), il_193.lookup e.1 = some e.2 := by decide +kernel
theorem li_193_1 : il_193.lookup 1 = some (.getfield 31, 4) := by decide +kernel
theorem bo_193_4_e962e2 : ∀ e ∈ ([(4, .iload_n 1, 5)] : List (Nat × Instr × Nat)), il_193.lookup e.1 = some e.2 := by decide +kernel
theorem li_193_5 : il_193.lookup 5 = some (.invokevirtual 133, 8) := by decide +kernel
theorem bo_193_8_c75d33 : ∀ e ∈ ([(8, .astore 4, 10), (10, .aload 4, 12), (12, .ifnonnull 8, 15), (15, .ldc 137, 17), (17, .goto 13, 20)] : List (Nat × Instr × Nat)), il_193.lookup e.1 = some e.2 := by decide +kernel
theorem li_193_30 : il_193.lookup 30 = some (.ireturn, 31) := by decide +kernel
theorem bo_193_8_be2310 : ∀ e ∈ ([(8, .astore 4, 10), (10, .aload 4, 12), (12, .ifnonnull 8, 15), (20, .aload 4, 22)] : List (Nat × Instr × Nat)), il_193.lookup e.1 = some e.2 := by decide +kernel
theorem li_193_22 : il_193.lookup 22 = some (.getfield 230, 25) := by decide +kernel
theorem bo_193_25_6328ed : ∀ e ∈ ([(25, .iload_n 2, 26), (26, .iload_n 3, 27)] : List (Nat × Instr × Nat)), il_193.lookup e.1 = some e.2 := by decide +kernel
theorem li_193_27 : il_193.lookup 27 = some (.invokestatic 234, 30) := by decide +kernel
theorem bo_194_0_264884 : ∀ e ∈ ([(0, .aload_n 0, 1), (1, .iload_n 1, 2)] : List (Nat × Instr × Nat)), il_194.lookup e.1 = some e.2 := by decide +kernel
theorem li_194_2 : il_194.lookup 2 = some (.invokevirtual 377, 5) := by decide +kernel
theorem li_194_5 : il_194.lookup 5 = some (.ifCond .eq 33, 8) := by decide +kernel
theorem bo_194_38_c8c763 : ∀ e ∈ ([(38, .ldc_w 309, 41)] : List (Nat × Instr × Nat)), il_194.lookup e.1 = some e.2 := by decide +kernel
theorem li_194_41 : il_194.lookup 41 = some (.ireturn, 42) := by decide +kernel
theorem bo_194_8_325fca : ∀ e ∈ ([(8, .iload_n 2, 9), (9, .iconst 0, 10), (10, .bipush 15, 12)] : List (Nat × Instr × Nat)), il_194.lookup e.1 = some e.2 := by decide +kernel
theorem li_194_12 : il_194.lookup 12 = some (.invokestatic 203, 15) := by decide +kernel
theorem li_194_15 : il_194.lookup 15 = some (.ifCond .eq 23, 18) := by decide +kernel
theorem bo_194_18_d268ac : ∀ e ∈ ([(18, .aload_n 0, 19), (19, .iload_n 1, 20)] : List (Nat × Instr × Nat)), il_194.lookup e.1 = some e.2 := by decide +kernel
theorem li_194_20 : il_194.lookup 20 = some (.invokevirtual 281, 23) := by decide +kernel
theorem li_194_23 : il_194.lookup 23 = some (.ifCond .eq 15, 26) := by decide +kernel
theorem bo_194_26_68154a : ∀ e ∈ ([(26, .aload 4, 28), (28, .bipush 16, 30), (30, .iload_n 1, 31), (31, .imul, 32), (32, .iload_n 2, 33), (33, .iadd, 34)] : List (Nat × Instr × Nat)), il_194.lookup e.1 = some e.2 := by decide +kernel
theorem li_194_34 : il_194.lookup 34 = some (.baload, 35) := by decide +kernel
theorem li_194_35 : il_194.lookup 35 = some (.ifCond .ne 7, 38) := by decide +kernel
theorem bo_194_42_b7a230 : ∀ e ∈ ([(42, .iload_n 3, 43), (43, .iconst 0, 44), (44, .iconst 1, 45)] : List (Nat × Instr × Nat)), il_194.lookup e.1 = some e.2 := by decide +kernel
theorem li_194_45 : il_194.lookup 45 = some (.invokestatic 203, 48) := by decide +kernel
theorem li_194_48 : il_194.lookup 48 = some (.ifCond .ne 8, 51) := by decide +kernel
theorem bo_194_56_350148 : ∀ e ∈ ([(56, .iload_n 3, 57)] : List (Nat × Instr × Nat)), il_194.lookup e.1 = some e.2 := by decide +kernel
theorem li_194_57 : il_194.lookup 57 = some (.ifCond .ne 15, 60) := by decide +kernel
theorem bo_194_72_e5b601 : ∀ e ∈ ([(72, .aload 6, 74), (74, .bipush 16, 76), (76, .iload_n 1, 77), (77, .imul, 78), (78, .iload_n 2, 79), (79, .iadd, 80)] : List (Nat × Instr × Nat)), il_194.lookup e.1 = some e.2 := by decide +kernel
theorem li_194_80 : il_194.lookup 80 = some (.iaload, 81) := by decide +kernel
theorem li_194_81 : il_194.lookup 81 = some (.ireturn, 82) := by decide +kernel
theorem bo_194_60_c5f288 : ∀ e ∈ ([(60, .aload 5, 62), (62, .bipush 16, 64), (64, .iload_n 1, 65), (65, .imul, 66), (66, .iload_n 2, 67), (67, .iadd, 68)] : List (Nat × Instr × Nat)), il_194.lookup e.1 = some e.2 := by decide +kernel
theorem li_194_68 : il_194.lookup 68 = some (.iaload, 69) := by decide +kernel
theorem bo_194_69_d2296b : ∀ e ∈ ([(69, .goto 12, 72)] : List (Nat × Instr × Nat)), il_194.lookup e.1 = some e.2 := by decide +kernel
theorem bo_194_51_dd8b5c : ∀ e ∈ ([(51, .ldc 207, 53), (53, .goto 28, 56)] : List (Nat × Instr × Nat)), il_194.lookup e.1 = some e.2 := by decide +kernel
theorem bo_195_0_e5d6d4 : ∀ e ∈ ([(0, .aload_n 0, 1), (1, .iload_n 1, 2), (2, .iload_n 2, 3), (3, .iload_n 3, 4), (4, .aload_n 0, 5)] : List (Nat × Instr × Nat)), il_195.lookup e.1 = some e.2 := by decide +kernel
theorem li_195_5 : il_195.lookup 5 = some (.getfield 56, 8) := by decide +kernel
theorem bo_195_8_383530 : ∀ e ∈ ([(8, .aload_n 0, 9)] : List (Nat × Instr × Nat)), il_195.lookup e.1 = some e.2 := by decide +kernel
theorem li_195_9 : il_195.lookup 9 = some (.getfield 66, 12) := by decide +kernel
theorem bo_195_12_d0d0c9 : ∀ e ∈ ([(12, .aload_n 0, 13)] : List (Nat × Instr × Nat)), il_195.lookup e.1 = some e.2 := by decide +kernel
theorem li_195_13 : il_195.lookup 13 = some (.getfield 75, 16) := by decide +kernel
theorem li_195_16 : il_195.lookup 16 = some (.invokevirtual 386, 19) := by decide +kernel
theorem li_195_19 : il_195.lookup 19 = some (.ireturn, 20) := by decide +kernel
theorem bo_196_0_8d5162 : ∀ e ∈ ([(0, .aload_n 0, 1)] : List (Nat × Instr × Nat)), il_196.lookup e.1 = some e.2 := by decide +kernel
theorem li_196_1 : il_196.lookup 1 = some (.getfield 31, 4) := by decide +kernel
theorem bo_196_4_e962e2 : ∀ e ∈ ([(4, .iload_n 1, 5)] : List (Nat × Instr × Nat)), il_196.lookup e.1 = some e.2 := by decide +kernel
theorem li_196_5 : il_196.lookup 5 = some (.invokevirtual 133, 8) := by decide +kernel
theorem bo_196_8_c75d33 : ∀ e ∈ ([(8, .astore 4, 10), (10, .aload 4, 12), (12, .ifnonnull 8, 15), (15, .ldc 137, 17), (17, .goto 13, 20)] : List (Nat × Instr × Nat)), il_196.lookup e.1 = some e.2 := by decide +kernel
theorem li_196_30 : il_196.lookup 30 = some (.ireturn, 31) := by decide +kernel
theorem bo_196_8_be2310 : ∀ e ∈ ([(8, .astore 4, 10), (10, .aload 4, 12), (12, .ifnonnull 8, 15), (20, .aload 4, 22)] : List (Nat × Instr × Nat)), il_196.lookup e.1 = some e.2 := by decide +kernel
theorem li_196_22 : il_196.lookup 22 = some (.getfield 238, 25) := by decide +kernel
theorem bo_196_25_6328ed : ∀ e ∈ ([(25, .iload_n 2, 26), (26, .iload_n 3, 27)] : List (Nat × Instr × Nat)), il_196.lookup e.1 = some e.2 := by decide +kernel
theorem li_196_27 : il_196.lookup 27 = some (.invokestatic 234, 30) := by decide +kernel
theorem bo_197_0_e5d6d4 : ∀ e ∈ ([(0, .aload_n 0, 1), (1, .iload_n 1, 2), (2, .iload_n 2, 3), (3, .iload_n 3, 4), (4, .aload_n 0, 5)] : List (Nat × Instr × Nat)), il_197.lookup e.1 = some e.2 := by decide +kernel
theorem li_197_5 : il_197.lookup 5 = some (.getfield 63, 8) := by decide +kernel
theorem bo_197_8_383530 : ∀ e ∈ ([(8, .aload_n 0, 9)] : List (Nat × Instr × Nat)), il_197.lookup e.1 = some e.2 := by decide +kernel
theorem li_197_9 : il_197.lookup 9 = some (.getfield 72, 12) := by decide +kernel
theorem bo_197_12_d0d0c9 : ∀ e ∈ ([(12, .aload_n 0, 13)] : List (Nat × Instr × Nat)), il_197.lookup e.1 = some e.2 := by decide +kernel
theorem li_197_13 : il_197.lookup 13 = some (.getfield 81, 16) := by decide +kernel
theorem li_197_16 : il_197.lookup 16 = some (.invokevirtual 386, 19) := by decide +kernel
theorem li_197_19 : il_197.lookup 19 = some (.ireturn, 20) := by decide +kernel
theorem bo_198_52_ee2563 : ∀ e ∈ ([(52, .iinc 4 1, 55), (55, .goto (-50), 58)] : List (Nat × Instr × Nat)), il_198.lookup e.1 = some e.2 := by decide +kernel
theorem bo_198_5_b1d84f : ∀ e ∈ ([(5, .iload 4, 7), (7, .aload_n 0, 8)] : List (Nat × Instr × Nat)), il_198.lookup e.1 = some e.2 := by decide +kernel
theorem li_198_8 : il_198.lookup 8 = some (.getfield 7, 11) := by decide +kernel
theorem li_198_11 : il_198.lookup 11 = some (.arraylength, 12) := by decide +kernel
theorem li_198_12 : il_198.lookup 12 = some (.if_icmp .ge 46, 15) := by decide +kernel
theorem bo_198_58_df393a : ∀ e ∈ ([(58, .ldc 13, 60)] : List (Nat × Instr × Nat)), il_198.lookup e.1 = some e.2 := by decide +kernel
theorem li_198_60 : il_198.lookup 60 = some (.ireturn, 61) := by decide +kernel
theorem bo_198_15_d45c32 : ∀ e ∈ ([(15, .lload_n 2, 16), (16, .aload_n 0, 17)] : List (Nat × Instr × Nat)), il_198.lookup e.1 = some e.2 := by decide +kernel
theorem li_198_17 : il_198.lookup 17 = some (.getfield 7, 20) := by decide +kernel
theorem bo_198_20_baa9a0 : ∀ e ∈ ([(20, .iload 4, 22)] : List (Nat × Instr × Nat)), il_198.lookup e.1 = some e.2 := by decide +kernel
theorem li_198_22 : il_198.lookup 22 = some (.iaload, 23) := by decide +kernel
theorem bo_198_23_6d5bb3 : ∀ e ∈ ([(23, .i2l, 24), (24, .ladd, 25), (25, .lstore_n 2, 26), (26, .lload_n 2, 27), (27, .lconst 0, 28), (28, .lcmp, 29)] : List (Nat × Instr × Nat)), il_198.lookup e.1 = some e.2 := by decide +kernel
theorem li_198_29 : il_198.lookup 29 = some (.ifCond .le 23, 32) := by decide +kernel
theorem bo_198_32_814cbe : ∀ e ∈ ([(32, .lload_n 2, 33), (33, .ldc2_w 36, 36), (36, .lmul, 37), (37, .iload_n 1, 38), (38, .i2l, 39), (39, .aload_n 0, 40)] : List (Nat × Instr × Nat)), il_198.lookup e.1 = some e.2 := by decide +kernel
theorem li_198_40 : il_198.lookup 40 = some (.getfield 29, 43) := by decide +kernel
theorem bo_198_43_b66fbf : ∀ e ∈ ([(43, .i2l, 44), (44, .lmul, 45), (45, .lcmp, 46)] : List (Nat × Instr × Nat)), il_198.lookup e.1 = some e.2 := by decide +kernel
theorem li_198_46 : il_198.lookup 46 = some (.ifCond .lt 6, 49) := by decide +kernel
theorem bo_198_49_e052b7 : ∀ e ∈ ([(49, .iload 4, 51)] : List (Nat × Instr × Nat)), il_198.lookup e.1 = some e.2 := by decide +kernel
theorem li_198_51 : il_198.lookup 51 = some (.ireturn, 52) := by decide +kernel
theorem bo_198_0_5a4d31 : ∀ e ∈ ([(0, .lconst 0, 1), (1, .lstore_n 2, 2), (2, .iconst 0, 3), (3, .istore 4, 5)] : List (Nat × Instr × Nat)), il_198.lookup e.1 = some e.2 := by decide +kernel
theorem bo_199_0_264884 : ∀ e ∈ ([(0, .iload_n 1, 1), (1, .bipush (-2), 3)] : List (Nat × Instr × Nat)), il_199.lookup e.1 = some e.2 := by decide +kernel
theorem li_199_3 : il_199.lookup 3 = some (.if_icmp .lt 9, 6) := by decide +kernel
theorem bo_199_12_d0d0c9 : ∀ e ∈ ([(12, .ldc 51, 14)] : List (Nat × Instr × Nat)), il_199.lookup e.1 = some e.2 := by decide +kernel
theorem li_199_14 : il_199.lookup 14 = some (.ireturn, 15) := by decide +kernel
theorem bo_199_6_e618ed : ∀ e ∈ ([(6, .iload_n 1, 7), (7, .bipush 100, 9)] : List (Nat × Instr × Nat)), il_199.lookup e.1 = some e.2 := by decide +kernel
theorem li_199_9 : il_199.lookup 9 = some (.if_icmp .le 6, 12) := by decide +kernel
theorem bo_199_15_be4250 : ∀ e ∈ ([(15, .aload_n 0, 16)] : List (Nat × Instr × Nat)), il_199.lookup e.1 = some e.2 := by decide +kernel
theorem li_199_16 : il_199.lookup 16 = some (.getfield 31, 19) := by decide +kernel
theorem li_199_19 : il_199.lookup 19 = some (.getfield 241, 22) := by decide +kernel
theorem bo_199_22_13b32e : ∀ e ∈ ([(22, .astore_n 2, 23), (23, .aload_n 2, 24)] : List (Nat × Instr × Nat)), il_199.lookup e.1 = some e.2 := by decide +kernel
theorem li_199_24 : il_199.lookup 24 = some (.getfield 245, 27) := by decide +kernel
theorem li_199_27 : il_199.lookup 27 = some (.ifCond .ne 6, 30) := by decide +kernel
theorem bo_199_33_9ed66c : ∀ e ∈ ([(33, .iload_n 1, 34), (34, .bipush (-2), 36)] : List (Nat × Instr × Nat)), il_199.lookup e.1 = some e.2 := by decide +kernel
theorem li_199_36 : il_199.lookup 36 = some (.if_icmp .ne 8, 39) := by decide +kernel
theorem bo_199_44_e175ea : ∀ e ∈ ([(44, .iload_n 1, 45), (45, .iconst (-1), 46)] : List (Nat × Instr × Nat)), il_199.lookup e.1 = some e.2 := by decide +kernel
theorem li_199_46 : il_199.lookup 46 = some (.if_icmp .ne 10, 49) := by decide +kernel
theorem bo_199_56_ba4435 : ∀ e ∈ ([(56, .aload_n 2, 57), (57, .iload_n 1, 58)] : List (Nat × Instr × Nat)), il_199.lookup e.1 = some e.2 := by decide +kernel
theorem li_199_58 : il_199.lookup 58 = some (.invokevirtual 253, 61) := by decide +kernel
theorem li_199_61 : il_199.lookup 61 = some (.ireturn, 62) := by decide +kernel
theorem bo_199_49_e052b7 : ∀ e ∈ ([(49, .aload_n 2, 50)] : List (Nat × Instr × Nat)), il_199.lookup e.1 = some e.2 := by decide +kernel
theorem li_199_50 : il_199.lookup 50 = some (.getfield 245, 53) := by decide +kernel
theorem bo_199_53_a422c0 : ∀ e ∈ ([(53, .goto 8, 56)] : List (Nat × Instr × Nat)), il_199.lookup e.1 = some e.2 := by decide +kernel
theorem bo_199_39_4dcc25 : ∀ e ∈ ([(39, .aload_n 2, 40)] : List (Nat × Instr × Nat)), il_199.lookup e.1 = some e.2 := by decide +kernel
theorem li_199_40 : il_199.lookup 40 = some (.getfield 250, 43) := by decide +kernel
theorem li_199_43 : il_199.lookup 43 = some (.ireturn, 44) := by decide +kernel
theorem bo_199_30_0b4e4a : ∀ e ∈ ([(30, .ldc 137, 32)] : List (Nat × Instr × Nat)), il_199.lookup e.1 = some e.2 := by decide +kernel
theorem li_199_32 : il_199.lookup 32 = some (.ireturn, 33) := by decide +kernel
theorem e_m_putsBarrier_14 {d : Nat} (hd : 1 ≤ d) (l0 : Nat) (l1 : Int32) (M : Mem) (r : Mem) (h : f_m_putsBarrier_14 l0 l1 M = some r) : EV d 150 14 [some (.ref l0), some (.int l1)] [] M (none, r) := by
  unfold f_m_putsBarrier_14 at h
  refine EV_stq mx_150 (pc' := 15) (L' := [some (.ref l0), some (.int l1)]) (st' := [.ref l0]) bo_150_14_3e81ce rfl ?_
  refine r_gA mx_150 li_150_15 fd_14_135 rfl h (fun a1 h => ?_)
  refine EV_stq mx_150 (pc' := 22) (L' := [some (.ref l0), some (.int l1)]) (st' := [.ref l0, .int ((4 : Int32) * l1), .ref a1]) bo_150_18_5f9e6e rfl ?_
  refine r_gA mx_150 li_150_22 fd_14_129 rfl h (fun a2 h => ?_)
  refine EV_stq mx_150 (pc' := 26) (L' := [some (.ref l0), some (.int l1)]) (st' := [.int l1, .ref a2, .int ((4 : Int32) * l1), .ref a1]) bo_150_25_1858f6 rfl ?_
  refine r_aI mx_150 li_150_26 h (fun v3 h => ?_)
  refine EV_stq mx_150 (pc' := 29) (L' := [some (.ref l0), some (.int l1)]) (st' := [.int (-1 : Int32), .int (((4 : Int32) * l1) + v3), .ref a1]) bo_150_27_fe3fdb rfl ?_
  refine r_sI mx_150 li_150_29 h (fun M4 h => ?_)
  refine EV_stq mx_150 (pc' := 31) (L' := [some (.ref l0), some (.int l1)]) (st' := [.ref l0]) bo_150_30_0b4e4a rfl ?_
  refine r_gA mx_150 li_150_31 fd_14_129 rfl h (fun a5 h => ?_)
  refine EV_stq mx_150 (pc' := 36) (L' := [some (.ref l0), some (.int l1)]) (st' := [.int l1, .ref a5, .int l1, .ref a5]) bo_150_34_812988 rfl ?_
  refine r_aI mx_150 li_150_36 h (fun v6 h => ?_)
  refine EV_stq mx_150 (pc' := 39) (L' := [some (.ref l0), some (.int l1)]) (st' := [.int (v6 + (1 : Int32)), .int l1, .ref a5]) bo_150_37_b7e9cc rfl ?_
  refine r_sI mx_150 li_150_39 h (fun M7 h => ?_)
  obtain rfl := Option.some.inj h
  exact r_ret mx_150 li_150_40 rfl rfl
theorem e_m_putsBarrier {d : Nat} (hd : 1 ≤ d) (p0 : Nat) (p1 : Int32) (M : Mem) (r : Mem) (h : f_m_putsBarrier p0 p1 M = some r) : EV d 150 0 (entL 2 [.ref p0, .int p1]) [] M (none, r) := by
  show EV d 150 0 [some (.ref p0), some (.int p1)] [] M _
  unfold f_m_putsBarrier at h
  refine EV_stq mx_150 (pc' := 1) (L' := [some (.ref p0), some (.int p1)]) (st' := [.ref p0]) bo_150_0_8d5162 rfl ?_
  refine r_gA mx_150 li_150_1 fd_14_114 rfl h (fun a1 h => ?_)
  refine EV_stq mx_150 (pc' := 5) (L' := [some (.ref p0), some (.int p1)]) (st' := [.int p1, .ref a1]) bo_150_4_e962e2 rfl ?_
  refine r_aI mx_150 li_150_5 h (fun v2 h => ?_)
  refine h_le h (fun h hc => ?_) (fun h hc => ?_)
  · refine r_ifT mx_150 li_150_6 (by decide) rfl hc ?_
    exact e_m_putsBarrier_14 hd p0 p1 M r h
  · refine r_ifF mx_150 li_150_6 (by decide) hc ?_
    refine EV_stq mx_150 (pc' := 11) (L' := [some (.ref p0), some (.int p1)]) (st' := [.int p1, .ref p0]) bo_150_9_16efa2 rfl ?_
    refine h_ck h (fun hc h => ?_)
    refine h_cV h (fun M3 e h => ?_)
    refine EV_call [.ref p0, .int p1] [] mx_150 li_150_11 rfl rfl si_14_278 rfl (by decide) (by decide) (by omega) ma_139 rfl (Nat.le_of_ble_eq_true rfl) rfl rfl (Nat.le_of_ble_eq_true rfl) (rc_1 mt_at_139 rfl rfl (by decide) hc) (e_m_closes (by omega) p0 p1 M _ e) ?_
    show EV d 150 14 [some (.ref p0), some (.int p1)] [] M3 _
    exact e_m_putsBarrier_14 hd p0 p1 M3 r h
theorem e_m_sends_229 {d : Nat} (hd : 2 ≤ d) : ∀ (n : Nat) (l0 : Nat) (l1 : Int32) (l2 : Int32) (l3 : Int32) (l4 : Int32) (M : Mem) (r : Int32 × Mem), f_m_sends_229 n l0 l1 l2 l3 l4 M = some r → EV d 151 229 [some (.ref l0), some (.int l1), some (.int l2), some (.int l3), some (.int l4), none, none] [] M (some (.int r.1), r.2) := by
  intro n
  induction n with
  | zero => intro l0 l1 l2 l3 l4 M r h; cases h
  | succ n ih =>
    intro l0 l1 l2 l3 l4 M r h
    unfold f_m_sends_229 at h
    refine EV_stq mx_151 (pc' := 232) (L' := [some (.ref l0), some (.int l1), some (.int l2), some (.int l3), some (.int l4), none, none]) (st' := [.ref l0, .int l4]) bo_151_229_9c43bd rfl ?_
    refine r_gA mx_151 li_151_232 fd_14_22 rfl h (fun a1 h => ?_)
    refine EV_stq mx_151 (pc' := 238) (L' := [some (.ref l0), some (.int l1), some (.int l2), some (.int l3), some (.int l4), none, none]) (st' := [.int (l1 + (1 : Int32)), .ref a1, .int l4]) bo_151_235_3c08aa rfl ?_
    refine r_aI mx_151 li_151_238 h (fun v2 h => ?_)
    refine h_ge h (fun h hc => ?_) (fun h hc => ?_)
    · refine r_icT mx_151 li_151_239 (by decide) rfl hc ?_
      refine EV_stq mx_151 (pc' := 260) (L' := [some (.ref l0), some (.int l1), some (.int l2), some (.int l3), some (.int l4), none, none]) (st' := [.ref l0]) bo_151_259_516b23 rfl ?_
      refine r_gA mx_151 li_151_260 fd_14_111 rfl h (fun a3 h => ?_)
      refine EV_stq mx_151 (pc' := 265) (L' := [some (.ref l0), some (.int l1), some (.int l2), some (.int l3), some (.int l4), none, none]) (st' := [.int (0 : Int32), .int l3, .ref a3]) bo_151_263_e508f9 rfl ?_
      refine r_sB mx_151 li_151_265 h (fun M4 h => ?_)
      refine EV_stq mx_151 (pc' := 267) (L' := [some (.ref l0), some (.int l1), some (.int l2), some (.int l3), some (.int l4), none, none]) (st' := [.int (1 : Int32)]) bo_151_266_437b86 rfl ?_
      obtain rfl := Option.some.inj h
      exact r_ret mx_151 li_151_267 rfl (ro_nar (t := .boolean) (by decide) rfl)
    · refine r_icF mx_151 li_151_239 (by decide) hc ?_
      refine EV_stq mx_151 (pc' := 247) (L' := [some (.ref l0), some (.int l1), some (.int l2), some (.int l3), some (.int l4), none, none]) (st' := [.int l4, .int l2, .int l1, .ref l0]) bo_151_242_53a6fd rfl ?_
      refine h_cI h (fun v6 M5 e h => ?_)
      refine EV_call [.int l1, .int l2, .int l4] [.ref l0] mx_151 li_151_247 rfl rfl si_14_324 rfl (by decide) (by decide) (by omega) ma_145 rfl (Nat.le_of_ble_eq_true rfl) rfl rfl (Nat.le_of_ble_eq_true rfl) rfl (e_m_line (by omega) l1 l2 l4 M _ e) ?_
      show EV d 151 250 [some (.ref l0), some (.int l1), some (.int l2), some (.int l3), some (.int l4), none, none] [.int v6, .ref l0] M5 _
      refine h_ck h (fun hc h => ?_)
      refine h_cV h (fun M7 e h => ?_)
      refine EV_call [.ref l0, .int v6] [] mx_151 li_151_250 rfl rfl si_14_357 rfl (by decide) (by decide) (by omega) ma_150 rfl (Nat.le_of_ble_eq_true rfl) rfl rfl (Nat.le_of_ble_eq_true rfl) (rc_1 mt_at_150 rfl rfl (by decide) hc) (e_m_putsBarrier (by omega) l0 v6 M5 _ e) ?_
      show EV d 151 253 [some (.ref l0), some (.int l1), some (.int l2), some (.int l3), some (.int l4), none, none] [] M7 _
      refine EV_stq mx_151 (pc' := 229) (L' := [some (.ref l0), some (.int l1), some (.int l2), some (.int l3), some (.int (l4 + (1 : Int32))), none, none]) (st' := []) bo_151_253_30ba61 rfl ?_
      exact ih l0 l1 l2 l3 (l4 + (1 : Int32)) M7 r h
theorem e_m_sends_112 {d : Nat} (hd : 2 ≤ d) (k6 : Nat → Int32 → Int32 → Int32 → Mem → Option (Int32 × Mem)) (hk6 : ∀ l0 l1 l2 l3 M r, k6 l0 l1 l2 l3 M = some r → EV d 151 6 [some (.ref l0), some (.int l1), some (.int l2), some (.int l3), none, none, none] [] M (some (.int r.1), r.2)) : ∀ (n : Nat) (l0 : Nat) (l1 : Int32) (l2 : Int32) (l3 : Int32) (l6 : Int32) (M : Mem) (r : Int32 × Mem), f_m_sends_112 k6 n l0 l1 l2 l3 l6 M = some r → EV d 151 112 [some (.ref l0), some (.int l1), some (.int l2), some (.int l3), none, none, some (.int l6)] [] M (some (.int r.1), r.2) := by
  intro n
  induction n with
  | zero => intro l0 l1 l2 l3 l6 M r h; cases h
  | succ n ih =>
    intro l0 l1 l2 l3 l6 M r h
    unfold f_m_sends_112 at h
    refine EV_stq mx_151 (pc' := 115) (L' := [some (.ref l0), some (.int l1), some (.int l2), some (.int l3), none, none, some (.int l6)]) (st' := [.ref l0, .int l6]) bo_151_112_a136ae rfl ?_
    refine r_gA mx_151 li_151_115 fd_14_93 rfl h (fun a1 h => ?_)
    refine EV_stq mx_151 (pc' := 119) (L' := [some (.ref l0), some (.int l1), some (.int l2), some (.int l3), none, none, some (.int l6)]) (st' := [.int l3, .ref a1, .int l6]) bo_151_118_c412ec rfl ?_
    refine r_aI mx_151 li_151_119 h (fun v2 h => ?_)
    refine h_ge h (fun h hc => ?_) (fun h hc => ?_)
    · refine r_icT mx_151 li_151_120 (by decide) rfl hc ?_
      refine EV_stq mx_151 (pc' := 6) (L' := [some (.ref l0), some (.int l1), some (.int l2), some (.int l3), none, none, some (.int l6)]) (st' := []) bo_151_201_0c6ae6 rfl ?_
      refine EV_forget (A := [some (.ref l0), some (.int l1), some (.int l2), some (.int l3), none, none, none]) (lsub_of _ _ ⟨Or.inr rfl, ⟨Or.inr rfl, ⟨Or.inr rfl, ⟨Or.inr rfl, ⟨Or.inl rfl, ⟨Or.inl rfl, ⟨Or.inl rfl, trivial⟩⟩⟩⟩⟩⟩⟩) ?_
      exact hk6 l0 l1 l2 l3 M r h
    · refine r_icF mx_151 li_151_120 (by decide) hc ?_
      refine EV_stq mx_151 (pc' := 124) (L' := [some (.ref l0), some (.int l1), some (.int l2), some (.int l3), none, none, some (.int l6)]) (st' := [.ref l0]) bo_151_123_4951b9 rfl ?_
      refine r_gA mx_151 li_151_124 fd_14_96 rfl h (fun a3 h => ?_)
      refine EV_stq mx_151 (pc' := 134) (L' := [some (.ref l0), some (.int l1), some (.int l2), some (.int l3), none, none, some (.int l6)]) (st' := [.ref l0, .int (((3 : Int32) * l3) + l6), .ref a3]) bo_151_127_dbb57f rfl ?_
      refine r_gA mx_151 li_151_134 fd_14_96 rfl h (fun a4 h => ?_)
      refine EV_stq mx_151 (pc' := 145) (L' := [some (.ref l0), some (.int l1), some (.int l2), some (.int l3), none, none, some (.int l6)]) (st' := [.int ((((3 : Int32) * l3) + l6) + (1 : Int32)), .ref a4, .int (((3 : Int32) * l3) + l6), .ref a3]) bo_151_137_487cd7 rfl ?_
      refine r_aI mx_151 li_151_145 h (fun v5 h => ?_)
      refine r_sI mx_151 li_151_146 h (fun M6 h => ?_)
      refine EV_stq mx_151 (pc' := 148) (L' := [some (.ref l0), some (.int l1), some (.int l2), some (.int l3), none, none, some (.int l6)]) (st' := [.ref l0]) bo_151_147_3abd7c rfl ?_
      refine r_gA mx_151 li_151_148 fd_14_99 rfl h (fun a7 h => ?_)
      refine EV_stq mx_151 (pc' := 158) (L' := [some (.ref l0), some (.int l1), some (.int l2), some (.int l3), none, none, some (.int l6)]) (st' := [.ref l0, .int (((3 : Int32) * l3) + l6), .ref a7]) bo_151_151_86ab49 rfl ?_
      refine r_gA mx_151 li_151_158 fd_14_99 rfl h (fun a8 h => ?_)
      refine EV_stq mx_151 (pc' := 169) (L' := [some (.ref l0), some (.int l1), some (.int l2), some (.int l3), none, none, some (.int l6)]) (st' := [.int ((((3 : Int32) * l3) + l6) + (1 : Int32)), .ref a8, .int (((3 : Int32) * l3) + l6), .ref a7]) bo_151_161_13a8c9 rfl ?_
      refine r_aI mx_151 li_151_169 h (fun v9 h => ?_)
      refine r_sI mx_151 li_151_170 h (fun M10 h => ?_)
      refine EV_stq mx_151 (pc' := 172) (L' := [some (.ref l0), some (.int l1), some (.int l2), some (.int l3), none, none, some (.int l6)]) (st' := [.ref l0]) bo_151_171_bd2389 rfl ?_
      refine r_gA mx_151 li_151_172 fd_14_102 rfl h (fun a11 h => ?_)
      refine EV_stq mx_151 (pc' := 182) (L' := [some (.ref l0), some (.int l1), some (.int l2), some (.int l3), none, none, some (.int l6)]) (st' := [.ref l0, .int (((3 : Int32) * l3) + l6), .ref a11]) bo_151_175_2cc2fb rfl ?_
      refine r_gA mx_151 li_151_182 fd_14_102 rfl h (fun a12 h => ?_)
      refine EV_stq mx_151 (pc' := 193) (L' := [some (.ref l0), some (.int l1), some (.int l2), some (.int l3), none, none, some (.int l6)]) (st' := [.int ((((3 : Int32) * l3) + l6) + (1 : Int32)), .ref a12, .int (((3 : Int32) * l3) + l6), .ref a11]) bo_151_185_b0b0ea rfl ?_
      refine r_aI mx_151 li_151_193 h (fun v13 h => ?_)
      refine r_sI mx_151 li_151_194 h (fun M14 h => ?_)
      refine EV_stq mx_151 (pc' := 112) (L' := [some (.ref l0), some (.int l1), some (.int l2), some (.int l3), none, none, some (.int (l6 + (1 : Int32)))]) (st' := []) bo_151_195_d64d87 rfl ?_
      exact ih l0 l1 l2 l3 (l6 + (1 : Int32)) M14 r h
theorem e_m_sends_97 {d : Nat} (hd : 2 ≤ d) (k6 : Nat → Int32 → Int32 → Int32 → Mem → Option (Int32 × Mem)) (hk6 : ∀ l0 l1 l2 l3 M r, k6 l0 l1 l2 l3 M = some r → EV d 151 6 [some (.ref l0), some (.int l1), some (.int l2), some (.int l3), none, none, none] [] M (some (.int r.1), r.2)) (l0 : Nat) (l1 : Int32) (l2 : Int32) (l3 : Int32) (s0 : Int32) (s1 : Int32) (s2 : Int32) (s3 : Nat) (M : Mem) (r : Int32 × Mem) (h : f_m_sends_97 k6 l0 l1 l2 l3 s0 s1 s2 s3 M = some r) : EV d 151 97 [some (.ref l0), some (.int l1), some (.int l2), some (.int l3), none, none, none] [.int s0, .int s1, .int s2, .ref s3] M (some (.int r.1), r.2) := by
  unfold f_m_sends_97 at h
  refine EV_stq mx_151 (pc' := 98) (L' := [some (.ref l0), some (.int l1), some (.int l2), some (.int l3), none, none, none]) (st' := [.int (s1 + s0), .int s2, .ref s3]) bo_151_97_df0ce8 rfl ?_
  refine r_sI mx_151 li_151_98 h (fun M1 h => ?_)
  refine EV_stq mx_151 (pc' := 100) (L' := [some (.ref l0), some (.int l1), some (.int l2), some (.int l3), none, none, none]) (st' := [.ref l0]) bo_151_99_e6cd5c rfl ?_
  refine r_gA mx_151 li_151_100 fd_14_93 rfl h (fun a2 h => ?_)
  refine EV_stq mx_151 (pc' := 105) (L' := [some (.ref l0), some (.int l1), some (.int l2), some (.int l3), none, none, none]) (st' := [.int l3, .ref a2, .int l3, .ref a2]) bo_151_103_b58a7c rfl ?_
  refine r_aI mx_151 li_151_105 h (fun v3 h => ?_)
  refine EV_stq mx_151 (pc' := 108) (L' := [some (.ref l0), some (.int l1), some (.int l2), some (.int l3), none, none, none]) (st' := [.int (v3 - (1 : Int32)), .int l3, .ref a2]) bo_151_106_9c4b38 rfl ?_
  refine r_sI mx_151 li_151_108 h (fun M4 h => ?_)
  refine EV_stq mx_151 (pc' := 112) (L' := [some (.ref l0), some (.int l1), some (.int l2), some (.int l3), none, none, some (.int (0 : Int32))]) (st' := []) bo_151_109_644814 rfl ?_
  exact e_m_sends_112 hd k6 hk6 FU l0 l1 l2 l3 (0 : Int32) M4 r h
theorem e_m_sends_6 {d : Nat} (hd : 2 ≤ d) : ∀ (n : Nat) (l0 : Nat) (l1 : Int32) (l2 : Int32) (l3 : Int32) (M : Mem) (r : Int32 × Mem), f_m_sends_6 n l0 l1 l2 l3 M = some r → EV d 151 6 [some (.ref l0), some (.int l1), some (.int l2), some (.int l3), none, none, none] [] M (some (.int r.1), r.2) := by
  intro n
  induction n with
  | zero => intro l0 l1 l2 l3 M r h; cases h
  | succ n ih =>
    intro l0 l1 l2 l3 M r h
    unfold f_m_sends_6 at h
    refine EV_stq mx_151 (pc' := 7) (L' := [some (.ref l0), some (.int l1), some (.int l2), some (.int l3), none, none, none]) (st' := [.ref l0]) bo_151_6_907e54 rfl ?_
    refine r_gA mx_151 li_151_7 fd_14_93 rfl h (fun a1 h => ?_)
    refine EV_stq mx_151 (pc' := 11) (L' := [some (.ref l0), some (.int l1), some (.int l2), some (.int l3), none, none, none]) (st' := [.int l3, .ref a1]) bo_151_10_2a30f5 rfl ?_
    refine r_aI mx_151 li_151_11 h (fun v2 h => ?_)
    refine h_le h (fun h hc => ?_) (fun h hc => ?_)
    · refine r_ifT mx_151 li_151_12 (by decide) rfl hc ?_
      refine EV_stq mx_151 (pc' := 205) (L' := [some (.ref l0), some (.int l1), some (.int l2), some (.int l3), none, none, none]) (st' := [.ref l0]) bo_151_204_d3eea0 rfl ?_
      refine r_gA mx_151 li_151_205 fd_14_111 rfl h (fun a3 h => ?_)
      refine EV_stq mx_151 (pc' := 209) (L' := [some (.ref l0), some (.int l1), some (.int l2), some (.int l3), none, none, none]) (st' := [.int l3, .ref a3]) bo_151_208_a74105 rfl ?_
      refine r_aB mx_151 li_151_209 h (fun v4 h => ?_)
      refine h_ne h (fun h hc => ?_) (fun h hc => ?_)
      · refine r_ifF mx_151 li_151_210 (by decide) hc ?_
        refine EV_stq mx_151 (pc' := 214) (L' := [some (.ref l0), some (.int l1), some (.int l2), some (.int l3), none, none, none]) (st' := [.int (1 : Int32)]) bo_151_213_74a2fb rfl ?_
        obtain rfl := Option.some.inj h
        exact r_ret mx_151 li_151_214 rfl (ro_nar (t := .boolean) (by decide) rfl)
      · refine r_ifT mx_151 li_151_210 (by decide) rfl hc ?_
        refine EV_stq mx_151 (pc' := 218) (L' := [some (.ref l0), some (.int l1), some (.int l2), some (.int l3), none, none, none]) (st' := [.int l2, .int l1, .ref l0]) bo_151_215_f907d1 rfl ?_
        refine h_ck h (fun hc h => ?_)
        refine h_cI h (fun v6 M5 e h => ?_)
        refine EV_call [.ref l0, .int l1, .int l2] [] mx_151 li_151_218 rfl rfl si_14_354 rfl (by decide) (by decide) (by omega) ma_149 rfl (Nat.le_of_ble_eq_true rfl) rfl rfl (Nat.le_of_ble_eq_true rfl) (rc_1 mt_at_149 rfl rfl (by decide) hc) (e_m_refusing (by omega) l0 l1 l2 M _ e) ?_
        show EV d 151 221 [some (.ref l0), some (.int l1), some (.int l2), some (.int l3), none, none, none] [.int v6] M5 _
        refine h_lt h (fun h hc => ?_) (fun h hc => ?_)
        · refine r_ifT mx_151 li_151_221 (by decide) rfl hc ?_
          refine EV_stq mx_151 (pc' := 229) (L' := [some (.ref l0), some (.int l1), some (.int l2), some (.int l3), some (.int (0 : Int32)), none, none]) (st' := []) bo_151_226_13e50e rfl ?_
          exact e_m_sends_229 hd FU l0 l1 l2 l3 (0 : Int32) M5 r h
        · refine r_ifF mx_151 li_151_221 (by decide) hc ?_
          refine EV_stq mx_151 (pc' := 225) (L' := [some (.ref l0), some (.int l1), some (.int l2), some (.int l3), none, none, none]) (st' := [.int (0 : Int32)]) bo_151_224_65e609 rfl ?_
          obtain rfl := Option.some.inj h
          exact r_ret mx_151 li_151_225 rfl (ro_nar (t := .boolean) (by decide) rfl)
    · refine r_ifF mx_151 li_151_12 (by decide) hc ?_
      refine EV_stq mx_151 (pc' := 16) (L' := [some (.ref l0), some (.int l1), some (.int l2), some (.int l3), none, none, none]) (st' := [.ref l0]) bo_151_15_be4250 rfl ?_
      refine r_gA mx_151 li_151_16 fd_14_96 rfl h (fun a7 h => ?_)
      refine EV_stq mx_151 (pc' := 22) (L' := [some (.ref l0), some (.int l1), some (.int l2), some (.int l3), none, none, none]) (st' := [.int ((3 : Int32) * l3), .ref a7]) bo_151_19_7f125f rfl ?_
      refine r_aI mx_151 li_151_22 h (fun v8 h => ?_)
      refine EV_stq mx_151 (pc' := 32) (L' := [some (.ref l0), some (.int l1), some (.int l2), some (.int l3), some (.int v8), none, none]) (st' := [.int v8, .int l2, .int l1, .ref l0, .int l2, .int l1]) bo_151_23_ab2e2f rfl ?_
      refine h_ck h (fun hc h => ?_)
      refine h_cI h (fun v10 M9 e h => ?_)
      refine EV_call [.ref l0, .int l1, .int l2, .int v8] [.int l2, .int l1] mx_151 li_151_32 rfl rfl si_14_344 rfl (by decide) (by decide) (by omega) ma_144 rfl (Nat.le_of_ble_eq_true rfl) rfl rfl (Nat.le_of_ble_eq_true rfl) (rc_1 mt_at_144 rfl rfl (by decide) hc) (e_m_goal (by omega) l0 l1 l2 v8 M _ e) ?_
      show EV d 151 35 [some (.ref l0), some (.int l1), some (.int l2), some (.int l3), some (.int v8), none, none] [.int v10, .int l2, .int l1] M9 _
      refine h_cI h (fun v12 M11 e h => ?_)
      refine EV_call [.int l1, .int l2, .int v10] [] mx_151 li_151_35 rfl rfl si_14_324 rfl (by decide) (by decide) (by omega) ma_145 rfl (Nat.le_of_ble_eq_true rfl) rfl rfl (Nat.le_of_ble_eq_true rfl) rfl (e_m_line (by omega) l1 l2 v10 M9 _ e) ?_
      show EV d 151 38 [some (.ref l0), some (.int l1), some (.int l2), some (.int l3), some (.int v8), none, none] [.int v12] M11 _
      refine EV_stq mx_151 (pc' := 43) (L' := [some (.ref l0), some (.int l1), some (.int l2), some (.int l3), some (.int v8), some (.int v12), none]) (st' := [.int v12, .ref l0]) bo_151_38_005f59 rfl ?_
      refine h_ck h (fun hc h => ?_)
      refine h_cI h (fun v14 M13 e h => ?_)
      refine EV_call [.ref l0, .int v12] [] mx_151 li_151_43 rfl rfl si_14_347 rfl (by decide) (by decide) (by omega) ma_146 rfl (Nat.le_of_ble_eq_true rfl) rfl rfl (Nat.le_of_ble_eq_true rfl) (rc_1 mt_at_146 rfl rfl (by decide) hc) (e_m_takesRecord (by omega) l0 v12 M11 _ e) ?_
      show EV d 151 46 [some (.ref l0), some (.int l1), some (.int l2), some (.int l3), some (.int v8), some (.int v12), none] [.int v14] M13 _
      refine h_ne h (fun h hc => ?_) (fun h hc => ?_)
      · refine r_ifF mx_151 li_151_46 (by decide) hc ?_
        refine EV_stq mx_151 (pc' := 50) (L' := [some (.ref l0), some (.int l1), some (.int l2), some (.int l3), some (.int v8), some (.int v12), none]) (st' := [.int (0 : Int32)]) bo_151_49_e052b7 rfl ?_
        obtain rfl := Option.some.inj h
        exact r_ret mx_151 li_151_50 rfl (ro_nar (t := .boolean) (by decide) rfl)
      · refine r_ifT mx_151 li_151_46 (by decide) rfl hc ?_
        refine EV_stq mx_151 (pc' := 57) (L' := [some (.ref l0), some (.int l1), some (.int l2), some (.int l3), some (.int v8), some (.int v12), none]) (st' := [.ref l0, .int v8, .int v12, .ref l0]) bo_151_51_b455f5 rfl ?_
        refine r_gA mx_151 li_151_57 fd_14_99 rfl h (fun a15 h => ?_)
        refine EV_stq mx_151 (pc' := 63) (L' := [some (.ref l0), some (.int l1), some (.int l2), some (.int l3), some (.int v8), some (.int v12), none]) (st' := [.int ((3 : Int32) * l3), .ref a15, .int v8, .int v12, .ref l0]) bo_151_60_fecdda rfl ?_
        refine r_aI mx_151 li_151_63 h (fun v16 h => ?_)
        refine EV_stq mx_151 (pc' := 65) (L' := [some (.ref l0), some (.int l1), some (.int l2), some (.int l3), some (.int v8), some (.int v12), none]) (st' := [.ref l0, .int v16, .int v8, .int v12, .ref l0]) bo_151_64_446f01 rfl ?_
        refine r_gA mx_151 li_151_65 fd_14_102 rfl h (fun a17 h => ?_)
        refine EV_stq mx_151 (pc' := 71) (L' := [some (.ref l0), some (.int l1), some (.int l2), some (.int l3), some (.int v8), some (.int v12), none]) (st' := [.int ((3 : Int32) * l3), .ref a17, .int v16, .int v8, .int v12, .ref l0]) bo_151_68_bd19fc rfl ?_
        refine r_aI mx_151 li_151_71 h (fun v18 h => ?_)
        refine h_ck h (fun hc h => ?_)
        refine h_cV h (fun M19 e h => ?_)
        refine EV_call [.ref l0, .int v12, .int v8, .int v16, .int v18] [] mx_151 li_151_72 rfl rfl si_14_350 rfl (by decide) (by decide) (by omega) ma_147 rfl (Nat.le_of_ble_eq_true rfl) rfl rfl (Nat.le_of_ble_eq_true rfl) (rc_1 mt_at_147 rfl rfl (by decide) hc) (e_m_puts (by omega) l0 v12 v8 v16 v18 M13 _ e) ?_
        show EV d 151 75 [some (.ref l0), some (.int l1), some (.int l2), some (.int l3), some (.int v8), some (.int v12), none] [] M19 _
        refine EV_stq mx_151 (pc' := 76) (L' := [some (.ref l0), some (.int l1), some (.int l2), some (.int l3), some (.int v8), some (.int v12), none]) (st' := [.ref l0]) bo_151_75_1f1f88 rfl ?_
        refine r_gA mx_151 li_151_76 fd_14_84 rfl h (fun a20 h => ?_)
        refine EV_stq mx_151 (pc' := 81) (L' := [some (.ref l0), some (.int l1), some (.int l2), some (.int l3), some (.int v8), some (.int v12), none]) (st' := [.int l3, .ref a20, .int l3, .ref a20]) bo_151_79_5b2908 rfl ?_
        refine r_aI mx_151 li_151_81 h (fun v21 h => ?_)
        refine EV_stq mx_151 (pc' := 86) (L' := [some (.ref l0), some (.int l1), some (.int l2), some (.int l3), some (.int v8), some (.int v12), none]) (st' := [.int (l1 + (1 : Int32)), .ref l0, .int v21, .int l3, .ref a20]) bo_151_82_c296f2 rfl ?_
        refine h_ck h (fun hc h => ?_)
        refine h_cI h (fun v23 M22 e h => ?_)
        refine EV_call [.ref l0, .int (l1 + (1 : Int32))] [.int v21, .int l3, .ref a20] mx_151 li_151_86 rfl rfl si_14_281 rfl (by decide) (by decide) (by omega) ma_142 rfl (Nat.le_of_ble_eq_true rfl) rfl rfl (Nat.le_of_ble_eq_true rfl) (rc_1 mt_at_142 rfl rfl (by decide) hc) (e_m_isKeyed (by omega) l0 (l1 + (1 : Int32)) M19 _ e) ?_
        show EV d 151 89 [some (.ref l0), some (.int l1), some (.int l2), some (.int l3), some (.int v8), some (.int v12), none] [.int v23, .int v21, .int l3, .ref a20] M22 _
        refine h_eq h (fun h hc => ?_) (fun h hc => ?_)
        · refine r_ifT mx_151 li_151_89 (by decide) rfl hc ?_
          refine EV_stq mx_151 (pc' := 97) (L' := [some (.ref l0), some (.int l1), some (.int l2), some (.int l3), some (.int v8), some (.int v12), none]) (st' := [.int (1 : Int32), .int v21, .int l3, .ref a20]) bo_151_96_2375ef rfl ?_
          refine EV_forget (A := [some (.ref l0), some (.int l1), some (.int l2), some (.int l3), none, none, none]) (lsub_of _ _ ⟨Or.inr rfl, ⟨Or.inr rfl, ⟨Or.inr rfl, ⟨Or.inr rfl, ⟨Or.inl rfl, ⟨Or.inl rfl, ⟨Or.inl rfl, trivial⟩⟩⟩⟩⟩⟩⟩) ?_
          exact e_m_sends_97 hd _ ih l0 l1 l2 l3 (1 : Int32) v21 l3 a20 M22 r h
        · refine r_ifF mx_151 li_151_89 (by decide) hc ?_
          refine EV_stq mx_151 (pc' := 97) (L' := [some (.ref l0), some (.int l1), some (.int l2), some (.int l3), some (.int v8), some (.int v12), none]) (st' := [.int (0 : Int32), .int v21, .int l3, .ref a20]) bo_151_92_f850a5 rfl ?_
          refine EV_forget (A := [some (.ref l0), some (.int l1), some (.int l2), some (.int l3), none, none, none]) (lsub_of _ _ ⟨Or.inr rfl, ⟨Or.inr rfl, ⟨Or.inr rfl, ⟨Or.inr rfl, ⟨Or.inl rfl, ⟨Or.inl rfl, ⟨Or.inl rfl, trivial⟩⟩⟩⟩⟩⟩⟩) ?_
          exact e_m_sends_97 hd _ ih l0 l1 l2 l3 (0 : Int32) v21 l3 a20 M22 r h
theorem e_m_sends {d : Nat} (hd : 2 ≤ d) (p0 : Nat) (p1 : Int32) (p2 : Int32) (M : Mem) (r : Int32 × Mem) (h : f_m_sends p0 p1 p2 M = some r) : EV d 151 0 (entL 7 [.ref p0, .int p1, .int p2]) [] M (some (.int r.1), r.2) := by
  show EV d 151 0 [some (.ref p0), some (.int p1), some (.int p2), none, none, none, none] [] M _
  unfold f_m_sends at h
  refine EV_stq mx_151 (pc' := 2) (L' := [some (.ref p0), some (.int p1), some (.int p2), none, none, none, none]) (st' := [.int p2, .int p1]) bo_151_0_264884 rfl ?_
  refine h_cI h (fun v2 M1 e h => ?_)
  refine EV_call [.int p1, .int p2] [] mx_151 li_151_2 rfl rfl si_14_288 rfl (by decide) (by decide) (by omega) ma_141 rfl (Nat.le_of_ble_eq_true rfl) rfl rfl (Nat.le_of_ble_eq_true rfl) rfl (e_m_spot (by omega) p1 p2 M _ e) ?_
  show EV d 151 5 [some (.ref p0), some (.int p1), some (.int p2), none, none, none, none] [.int v2] M1 _
  refine EV_stq mx_151 (pc' := 6) (L' := [some (.ref p0), some (.int p1), some (.int p2), some (.int v2), none, none, none]) (st' := []) bo_151_5_7b98d2 rfl ?_
  exact e_m_sends_6 hd FU p0 p1 p2 v2 M1 r h
theorem e_m_emits {d : Nat} (hd : 1 ≤ d) (p0 : Nat) (p1 : Int32) (p2 : Int32) (p3 : Int32) (p4 : Int32) (p5 : Int32) (M : Mem) (r : Mem) (h : f_m_emits p0 p1 p2 p3 p4 p5 M = some r) : EV d 152 0 (entL 7 [.ref p0, .int p1, .int p2, .int p3, .int p4, .int p5]) [] M (none, r) := by
  show EV d 152 0 [some (.ref p0), some (.int p1), some (.int p2), some (.int p3), some (.int p4), some (.int p5), none] [] M _
  unfold f_m_emits at h
  refine EV_stq mx_152 (pc' := 2) (L' := [some (.ref p0), some (.int p1), some (.int p2), some (.int p3), some (.int p4), some (.int p5), none]) (st' := [.int p2, .int p1]) bo_152_0_264884 rfl ?_
  refine h_cI h (fun v2 M1 e h => ?_)
  refine EV_call [.int p1, .int p2] [] mx_152 li_152_2 rfl rfl si_14_288 rfl (by decide) (by decide) (by omega) ma_141 rfl (Nat.le_of_ble_eq_true rfl) rfl rfl (Nat.le_of_ble_eq_true rfl) rfl (e_m_spot (by omega) p1 p2 M _ e) ?_
  show EV d 152 5 [some (.ref p0), some (.int p1), some (.int p2), some (.int p3), some (.int p4), some (.int p5), none] [.int v2] M1 _
  refine EV_stq mx_152 (pc' := 8) (L' := [some (.ref p0), some (.int p1), some (.int p2), some (.int p3), some (.int p4), some (.int p5), some (.int v2)]) (st' := [.ref p0]) bo_152_5_b1d84f rfl ?_
  refine r_gA mx_152 li_152_8 fd_14_96 rfl h (fun a3 h => ?_)
  refine EV_stq mx_152 (pc' := 16) (L' := [some (.ref p0), some (.int p1), some (.int p2), some (.int p3), some (.int p4), some (.int p5), some (.int v2)]) (st' := [.ref p0, .int ((3 : Int32) * v2), .ref a3]) bo_152_11_daf963 rfl ?_
  refine r_gA mx_152 li_152_16 fd_14_93 rfl h (fun a4 h => ?_)
  refine EV_stq mx_152 (pc' := 21) (L' := [some (.ref p0), some (.int p1), some (.int p2), some (.int p3), some (.int p4), some (.int p5), some (.int v2)]) (st' := [.int v2, .ref a4, .int ((3 : Int32) * v2), .ref a3]) bo_152_19_1a8444 rfl ?_
  refine r_aI mx_152 li_152_21 h (fun v5 h => ?_)
  refine EV_stq mx_152 (pc' := 24) (L' := [some (.ref p0), some (.int p1), some (.int p2), some (.int p3), some (.int p4), some (.int p5), some (.int v2)]) (st' := [.int p3, .int (((3 : Int32) * v2) + v5), .ref a3]) bo_152_22_13b32e rfl ?_
  refine r_sI mx_152 li_152_24 h (fun M6 h => ?_)
  refine EV_stq mx_152 (pc' := 26) (L' := [some (.ref p0), some (.int p1), some (.int p2), some (.int p3), some (.int p4), some (.int p5), some (.int v2)]) (st' := [.ref p0]) bo_152_25_1858f6 rfl ?_
  refine r_gA mx_152 li_152_26 fd_14_99 rfl h (fun a7 h => ?_)
  refine EV_stq mx_152 (pc' := 34) (L' := [some (.ref p0), some (.int p1), some (.int p2), some (.int p3), some (.int p4), some (.int p5), some (.int v2)]) (st' := [.ref p0, .int ((3 : Int32) * v2), .ref a7]) bo_152_29_65361b rfl ?_
  refine r_gA mx_152 li_152_34 fd_14_93 rfl h (fun a8 h => ?_)
  refine EV_stq mx_152 (pc' := 39) (L' := [some (.ref p0), some (.int p1), some (.int p2), some (.int p3), some (.int p4), some (.int p5), some (.int v2)]) (st' := [.int v2, .ref a8, .int ((3 : Int32) * v2), .ref a7]) bo_152_37_a21c9f rfl ?_
  refine r_aI mx_152 li_152_39 h (fun v9 h => ?_)
  refine EV_stq mx_152 (pc' := 43) (L' := [some (.ref p0), some (.int p1), some (.int p2), some (.int p3), some (.int p4), some (.int p5), some (.int v2)]) (st' := [.int p4, .int (((3 : Int32) * v2) + v9), .ref a7]) bo_152_40_20557d rfl ?_
  refine r_sI mx_152 li_152_43 h (fun M10 h => ?_)
  refine EV_stq mx_152 (pc' := 45) (L' := [some (.ref p0), some (.int p1), some (.int p2), some (.int p3), some (.int p4), some (.int p5), some (.int v2)]) (st' := [.ref p0]) bo_152_44_56c0aa rfl ?_
  refine r_gA mx_152 li_152_45 fd_14_102 rfl h (fun a11 h => ?_)
  refine EV_stq mx_152 (pc' := 53) (L' := [some (.ref p0), some (.int p1), some (.int p2), some (.int p3), some (.int p4), some (.int p5), some (.int v2)]) (st' := [.ref p0, .int ((3 : Int32) * v2), .ref a11]) bo_152_48_a4360b rfl ?_
  refine r_gA mx_152 li_152_53 fd_14_93 rfl h (fun a12 h => ?_)
  refine EV_stq mx_152 (pc' := 58) (L' := [some (.ref p0), some (.int p1), some (.int p2), some (.int p3), some (.int p4), some (.int p5), some (.int v2)]) (st' := [.int v2, .ref a12, .int ((3 : Int32) * v2), .ref a11]) bo_152_56_350148 rfl ?_
  refine r_aI mx_152 li_152_58 h (fun v13 h => ?_)
  refine EV_stq mx_152 (pc' := 62) (L' := [some (.ref p0), some (.int p1), some (.int p2), some (.int p3), some (.int p4), some (.int p5), some (.int v2)]) (st' := [.int p5, .int (((3 : Int32) * v2) + v13), .ref a11]) bo_152_59_d0b94e rfl ?_
  refine r_sI mx_152 li_152_62 h (fun M14 h => ?_)
  refine EV_stq mx_152 (pc' := 64) (L' := [some (.ref p0), some (.int p1), some (.int p2), some (.int p3), some (.int p4), some (.int p5), some (.int v2)]) (st' := [.ref p0]) bo_152_63_e22c52 rfl ?_
  refine r_gA mx_152 li_152_64 fd_14_93 rfl h (fun a15 h => ?_)
  refine EV_stq mx_152 (pc' := 70) (L' := [some (.ref p0), some (.int p1), some (.int p2), some (.int p3), some (.int p4), some (.int p5), some (.int v2)]) (st' := [.int v2, .ref a15, .int v2, .ref a15]) bo_152_67_390b07 rfl ?_
  refine r_aI mx_152 li_152_70 h (fun v16 h => ?_)
  refine EV_stq mx_152 (pc' := 73) (L' := [some (.ref p0), some (.int p1), some (.int p2), some (.int p3), some (.int p4), some (.int p5), some (.int v2)]) (st' := [.int (v16 + (1 : Int32)), .int v2, .ref a15]) bo_152_71_0bf829 rfl ?_
  refine r_sI mx_152 li_152_73 h (fun M17 h => ?_)
  refine EV_stq mx_152 (pc' := 75) (L' := [some (.ref p0), some (.int p1), some (.int p2), some (.int p3), some (.int p4), some (.int p5), some (.int v2)]) (st' := [.ref p0]) bo_152_74_ac6591 rfl ?_
  refine r_gA mx_152 li_152_75 fd_14_47 rfl h (fun a18 h => ?_)
  refine EV_stq mx_152 (pc' := 80) (L' := [some (.ref p0), some (.int p1), some (.int p2), some (.int p3), some (.int p4), some (.int p5), some (.int v2)]) (st' := [.int p1, .ref a18, .int p1, .ref a18]) bo_152_78_32a02f rfl ?_
  refine r_aI mx_152 li_152_80 h (fun v19 h => ?_)
  refine EV_stq mx_152 (pc' := 83) (L' := [some (.ref p0), some (.int p1), some (.int p2), some (.int p3), some (.int p4), some (.int p5), some (.int v2)]) (st' := [.int (v19 + (1 : Int32)), .int p1, .ref a18]) bo_152_81_747218 rfl ?_
  refine r_sI mx_152 li_152_83 h (fun M20 h => ?_)
  obtain rfl := Option.some.inj h
  exact r_ret mx_152 li_152_84 rfl rfl
theorem e_m_ready_76 {d : Nat} (hd : 1 ≤ d) (k9 : Nat → Int32 → Int32 → Int32 → Int32 → Mem → Option (Int32 × Mem)) (hk9 : ∀ l0 l1 l2 l3 l4 M r, k9 l0 l1 l2 l3 l4 M = some r → EV d 153 9 [some (.ref l0), some (.int l1), some (.int l2), some (.int l3), some (.int l4), none] [] M (some (.int r.1), r.2)) (l0 : Nat) (l1 : Int32) (l2 : Int32) (l3 : Int32) (l4 : Int32) (M : Mem) (r : Int32 × Mem) (h : f_m_ready_76 k9 l0 l1 l2 l3 l4 M = some r) : EV d 153 76 [some (.ref l0), some (.int l1), some (.int l2), some (.int l3), some (.int l4), none] [] M (some (.int r.1), r.2) := by
  unfold f_m_ready_76 at h
  refine EV_stq mx_153 (pc' := 9) (L' := [some (.ref l0), some (.int l1), some (.int l2), some (.int l3), some (.int (l4 + (1 : Int32))), none]) (st' := []) bo_153_76_9beeb3 rfl ?_
  exact hk9 l0 l1 l2 l3 (l4 + (1 : Int32)) M r h
theorem e_m_ready_9 {d : Nat} (hd : 1 ≤ d) : ∀ (n : Nat) (l0 : Nat) (l1 : Int32) (l2 : Int32) (l3 : Int32) (l4 : Int32) (M : Mem) (r : Int32 × Mem), f_m_ready_9 n l0 l1 l2 l3 l4 M = some r → EV d 153 9 [some (.ref l0), some (.int l1), some (.int l2), some (.int l3), some (.int l4), none] [] M (some (.int r.1), r.2) := by
  intro n
  induction n with
  | zero => intro l0 l1 l2 l3 l4 M r h; cases h
  | succ n ih =>
    intro l0 l1 l2 l3 l4 M r h
    unfold f_m_ready_9 at h
    refine EV_stq mx_153 (pc' := 12) (L' := [some (.ref l0), some (.int l1), some (.int l2), some (.int l3), some (.int l4), none]) (st' := [.ref l0, .int l4]) bo_153_9_f9a062 rfl ?_
    refine r_gA mx_153 li_153_12 fd_14_22 rfl h (fun a1 h => ?_)
    refine EV_stq mx_153 (pc' := 18) (L' := [some (.ref l0), some (.int l1), some (.int l2), some (.int l3), some (.int l4), none]) (st' := [.int (l1 - (1 : Int32)), .ref a1, .int l4]) bo_153_15_f418fa rfl ?_
    refine r_aI mx_153 li_153_18 h (fun v2 h => ?_)
    refine h_ge h (fun h hc => ?_) (fun h hc => ?_)
    · refine r_icT mx_153 li_153_19 (by decide) rfl hc ?_
      refine EV_stq mx_153 (pc' := 83) (L' := [some (.ref l0), some (.int l1), some (.int l2), some (.int l3), some (.int l4), none]) (st' := [.int (-1 : Int32)]) bo_153_82_d3719d rfl ?_
      obtain rfl := Option.some.inj h
      exact r_ret mx_153 li_153_83 rfl ro_int
    · refine r_icF mx_153 li_153_19 (by decide) hc ?_
      refine EV_stq mx_153 (pc' := 23) (L' := [some (.ref l0), some (.int l1), some (.int l2), some (.int l3), some (.int l4), none]) (st' := [.ref l0]) bo_153_22_60ac31 rfl ?_
      refine r_gA mx_153 li_153_23 fd_14_108 rfl h (fun a3 h => ?_)
      refine EV_stq mx_153 (pc' := 27) (L' := [some (.ref l0), some (.int l1), some (.int l2), some (.int l3), some (.int l4), none]) (st' := [.int l3, .ref a3]) bo_153_26_bd3b31 rfl ?_
      refine r_aI mx_153 li_153_27 h (fun v4 h => ?_)
      refine EV_stq mx_153 (pc' := 32) (L' := [some (.ref l0), some (.int l1), some (.int l2), some (.int l3), some (.int l4), none]) (st' := [.ref l0, .int (v4 + l4)]) bo_153_28_5b3148 rfl ?_
      refine r_gA mx_153 li_153_32 fd_14_22 rfl h (fun a5 h => ?_)
      refine EV_stq mx_153 (pc' := 38) (L' := [some (.ref l0), some (.int l1), some (.int l2), some (.int l3), some (.int l4), none]) (st' := [.int (l1 - (1 : Int32)), .ref a5, .int (v4 + l4)]) bo_153_35_0ac55d rfl ?_
      refine r_aI mx_153 li_153_38 h (fun v6 h => ?_)
      refine r_rm mx_153 li_153_39 h (fun v7 h => ?_)
      refine EV_stq mx_153 (pc' := 43) (L' := [some (.ref l0), some (.int l1), some (.int l2), some (.int l3), some (.int l4), some (.int v7)]) (st' := [.ref l0]) bo_153_40_ddfaee rfl ?_
      refine r_gA mx_153 li_153_43 fd_14_105 rfl h (fun a8 h => ?_)
      refine EV_stq mx_153 (pc' := 47) (L' := [some (.ref l0), some (.int l1), some (.int l2), some (.int l3), some (.int l4), some (.int v7)]) (st' := [.int l3, .ref a8]) bo_153_46_4b02d4 rfl ?_
      refine r_aI mx_153 li_153_47 h (fun v9 h => ?_)
      refine EV_stq mx_153 (pc' := 53) (L' := [some (.ref l0), some (.int l1), some (.int l2), some (.int l3), some (.int l4), some (.int v7)]) (st' := [.int ((v9 >>> (v7 &&& 31)) &&& (1 : Int32))]) bo_153_48_a26bed rfl ?_
      refine h_ne h (fun h hc => ?_) (fun h hc => ?_)
      · refine r_ifF mx_153 li_153_53 (by decide) hc ?_
        refine EV_stq mx_153 (pc' := 57) (L' := [some (.ref l0), some (.int l1), some (.int l2), some (.int l3), some (.int l4), some (.int v7)]) (st' := [.ref l0]) bo_153_56_350148 rfl ?_
        refine r_gA mx_153 li_153_57 fd_14_129 rfl h (fun a10 h => ?_)
        refine EV_stq mx_153 (pc' := 66) (L' := [some (.ref l0), some (.int l1), some (.int l2), some (.int l3), some (.int l4), some (.int v7)]) (st' := [.int l2, .int v7, .int (l1 - (1 : Int32)), .ref a10]) bo_153_60_dfdd99 rfl ?_
        refine h_cI h (fun v12 M11 e h => ?_)
        refine EV_call [.int (l1 - (1 : Int32)), .int v7, .int l2] [.ref a10] mx_153 li_153_66 rfl rfl si_14_324 rfl (by decide) (by decide) (by omega) ma_145 rfl (Nat.le_of_ble_eq_true rfl) rfl rfl (Nat.le_of_ble_eq_true rfl) rfl (e_m_line (by omega) (l1 - (1 : Int32)) v7 l2 M _ e) ?_
        show EV d 153 69 [some (.ref l0), some (.int l1), some (.int l2), some (.int l3), some (.int l4), some (.int v7)] [.int v12, .ref a10] M11 _
        refine r_aI mx_153 li_153_69 h (fun v13 h => ?_)
        refine h_le h (fun h hc => ?_) (fun h hc => ?_)
        · refine r_ifT mx_153 li_153_70 (by decide) rfl hc ?_
          refine EV_forget (A := [some (.ref l0), some (.int l1), some (.int l2), some (.int l3), some (.int l4), none]) (lsub_of _ _ ⟨Or.inr rfl, ⟨Or.inr rfl, ⟨Or.inr rfl, ⟨Or.inr rfl, ⟨Or.inr rfl, ⟨Or.inl rfl, trivial⟩⟩⟩⟩⟩⟩) ?_
          exact e_m_ready_76 hd _ ih l0 l1 l2 l3 l4 M11 r h
        · refine r_ifF mx_153 li_153_70 (by decide) hc ?_
          refine EV_stq mx_153 (pc' := 75) (L' := [some (.ref l0), some (.int l1), some (.int l2), some (.int l3), some (.int l4), some (.int v7)]) (st' := [.int v7]) bo_153_73_555da0 rfl ?_
          obtain rfl := Option.some.inj h
          exact r_ret mx_153 li_153_75 rfl ro_int
      · refine r_ifT mx_153 li_153_53 (by decide) rfl hc ?_
        refine EV_forget (A := [some (.ref l0), some (.int l1), some (.int l2), some (.int l3), some (.int l4), none]) (lsub_of _ _ ⟨Or.inr rfl, ⟨Or.inr rfl, ⟨Or.inr rfl, ⟨Or.inr rfl, ⟨Or.inr rfl, ⟨Or.inl rfl, trivial⟩⟩⟩⟩⟩⟩) ?_
        exact e_m_ready_76 hd _ ih l0 l1 l2 l3 l4 M r h
theorem e_m_ready {d : Nat} (hd : 1 ≤ d) (p0 : Nat) (p1 : Int32) (p2 : Int32) (M : Mem) (r : Int32 × Mem) (h : f_m_ready p0 p1 p2 M = some r) : EV d 153 0 (entL 6 [.ref p0, .int p1, .int p2]) [] M (some (.int r.1), r.2) := by
  show EV d 153 0 [some (.ref p0), some (.int p1), some (.int p2), none, none, none] [] M _
  unfold f_m_ready at h
  refine EV_stq mx_153 (pc' := 2) (L' := [some (.ref p0), some (.int p1), some (.int p2), none, none, none]) (st' := [.int p2, .int p1]) bo_153_0_264884 rfl ?_
  refine h_cI h (fun v2 M1 e h => ?_)
  refine EV_call [.int p1, .int p2] [] mx_153 li_153_2 rfl rfl si_14_288 rfl (by decide) (by decide) (by omega) ma_141 rfl (Nat.le_of_ble_eq_true rfl) rfl rfl (Nat.le_of_ble_eq_true rfl) rfl (e_m_spot (by omega) p1 p2 M _ e) ?_
  show EV d 153 5 [some (.ref p0), some (.int p1), some (.int p2), none, none, none] [.int v2] M1 _
  refine EV_stq mx_153 (pc' := 9) (L' := [some (.ref p0), some (.int p1), some (.int p2), some (.int v2), some (.int (0 : Int32)), none]) (st' := []) bo_153_5_d472e4 rfl ?_
  exact e_m_ready_9 hd FU p0 p1 p2 v2 (0 : Int32) M1 r h
theorem e_m_pops_36 {d : Nat} (hd : 0 ≤ d) (k4 : Nat → Int32 → Int32 → Mem → Option (Mem)) (hk4 : ∀ l0 l1 l2 M r, k4 l0 l1 l2 M = some r → EV d 154 4 [some (.ref l0), some (.int l1), some (.int l2), none] [] M (none, r)) : ∀ (n : Nat) (l0 : Nat) (l1 : Int32) (l2 : Int32) (l3 : Int32) (M : Mem) (r : Mem), f_m_pops_36 k4 n l0 l1 l2 l3 M = some r → EV d 154 36 [some (.ref l0), some (.int l1), some (.int l2), some (.int l3)] [] M (none, r) := by
  intro n
  induction n with
  | zero => intro l0 l1 l2 l3 M r h; cases h
  | succ n ih =>
    intro l0 l1 l2 l3 M r h
    unfold f_m_pops_36 at h
    refine EV_stq mx_154 (pc' := 38) (L' := [some (.ref l0), some (.int l1), some (.int l2), some (.int l3)]) (st' := [.int (4 : Int32), .int l3]) bo_154_36_285c9e rfl ?_
    refine h_ge h (fun h hc => ?_) (fun h hc => ?_)
    · refine r_icT mx_154 li_154_38 (by decide) rfl hc ?_
      refine EV_stq mx_154 (pc' := 4) (L' := [some (.ref l0), some (.int l1), some (.int (l2 + (1 : Int32))), some (.int l3)]) (st' := []) bo_154_113_580d2a rfl ?_
      refine EV_forget (A := [some (.ref l0), some (.int l1), some (.int (l2 + (1 : Int32))), none]) (lsub_of _ _ ⟨Or.inr rfl, ⟨Or.inr rfl, ⟨Or.inr rfl, ⟨Or.inl rfl, trivial⟩⟩⟩⟩) ?_
      exact hk4 l0 l1 (l2 + (1 : Int32)) M r h
    · refine r_icF mx_154 li_154_38 (by decide) hc ?_
      refine EV_stq mx_154 (pc' := 42) (L' := [some (.ref l0), some (.int l1), some (.int l2), some (.int l3)]) (st' := [.ref l0]) bo_154_41_45abaf rfl ?_
      refine r_gA mx_154 li_154_42 fd_14_138 rfl h (fun a1 h => ?_)
      refine EV_stq mx_154 (pc' := 51) (L' := [some (.ref l0), some (.int l1), some (.int l2), some (.int l3)]) (st' := [.ref l0, .int (((4 : Int32) * l2) + l3), .ref a1]) bo_154_45_26f58f rfl ?_
      refine r_gA mx_154 li_154_51 fd_14_138 rfl h (fun a2 h => ?_)
      refine EV_stq mx_154 (pc' := 61) (L' := [some (.ref l0), some (.int l1), some (.int l2), some (.int l3)]) (st' := [.int (((4 : Int32) * (l2 + (1 : Int32))) + l3), .ref a2, .int (((4 : Int32) * l2) + l3), .ref a1]) bo_154_54_9d532f rfl ?_
      refine r_aI mx_154 li_154_61 h (fun v3 h => ?_)
      refine r_sI mx_154 li_154_62 h (fun M4 h => ?_)
      refine EV_stq mx_154 (pc' := 64) (L' := [some (.ref l0), some (.int l1), some (.int l2), some (.int l3)]) (st' := [.ref l0]) bo_154_63_e22c52 rfl ?_
      refine r_gA mx_154 li_154_64 fd_14_141 rfl h (fun a5 h => ?_)
      refine EV_stq mx_154 (pc' := 73) (L' := [some (.ref l0), some (.int l1), some (.int l2), some (.int l3)]) (st' := [.ref l0, .int (((4 : Int32) * l2) + l3), .ref a5]) bo_154_67_f86a8d rfl ?_
      refine r_gA mx_154 li_154_73 fd_14_141 rfl h (fun a6 h => ?_)
      refine EV_stq mx_154 (pc' := 83) (L' := [some (.ref l0), some (.int l1), some (.int l2), some (.int l3)]) (st' := [.int (((4 : Int32) * (l2 + (1 : Int32))) + l3), .ref a6, .int (((4 : Int32) * l2) + l3), .ref a5]) bo_154_76_095ec8 rfl ?_
      refine r_aI mx_154 li_154_83 h (fun v7 h => ?_)
      refine r_sI mx_154 li_154_84 h (fun M8 h => ?_)
      refine EV_stq mx_154 (pc' := 86) (L' := [some (.ref l0), some (.int l1), some (.int l2), some (.int l3)]) (st' := [.ref l0]) bo_154_85_4765e0 rfl ?_
      refine r_gA mx_154 li_154_86 fd_14_144 rfl h (fun a9 h => ?_)
      refine EV_stq mx_154 (pc' := 95) (L' := [some (.ref l0), some (.int l1), some (.int l2), some (.int l3)]) (st' := [.ref l0, .int (((4 : Int32) * l2) + l3), .ref a9]) bo_154_89_d4c8a5 rfl ?_
      refine r_gA mx_154 li_154_95 fd_14_144 rfl h (fun a10 h => ?_)
      refine EV_stq mx_154 (pc' := 105) (L' := [some (.ref l0), some (.int l1), some (.int l2), some (.int l3)]) (st' := [.int (((4 : Int32) * (l2 + (1 : Int32))) + l3), .ref a10, .int (((4 : Int32) * l2) + l3), .ref a9]) bo_154_98_d233dd rfl ?_
      refine r_aI mx_154 li_154_105 h (fun v11 h => ?_)
      refine r_sI mx_154 li_154_106 h (fun M12 h => ?_)
      refine EV_stq mx_154 (pc' := 36) (L' := [some (.ref l0), some (.int l1), some (.int l2), some (.int (l3 + (1 : Int32)))]) (st' := []) bo_154_107_14d64f rfl ?_
      exact ih l0 l1 l2 (l3 + (1 : Int32)) M12 r h
theorem e_m_pops_4 {d : Nat} (hd : 0 ≤ d) : ∀ (n : Nat) (l0 : Nat) (l1 : Int32) (l2 : Int32) (M : Mem) (r : Mem), f_m_pops_4 n l0 l1 l2 M = some r → EV d 154 4 [some (.ref l0), some (.int l1), some (.int l2), none] [] M (none, r) := by
  intro n
  induction n with
  | zero => intro l0 l1 l2 M r h; cases h
  | succ n ih =>
    intro l0 l1 l2 M r h
    unfold f_m_pops_4 at h
    refine EV_stq mx_154 (pc' := 11) (L' := [some (.ref l0), some (.int l1), some (.int l2), none]) (st' := [.ref l0, .int ((4 : Int32) * l1), .int (l2 + (1 : Int32))]) bo_154_4_11b46d rfl ?_
    refine r_gA mx_154 li_154_11 fd_14_129 rfl h (fun a1 h => ?_)
    refine EV_stq mx_154 (pc' := 15) (L' := [some (.ref l0), some (.int l1), some (.int l2), none]) (st' := [.int l1, .ref a1, .int ((4 : Int32) * l1), .int (l2 + (1 : Int32))]) bo_154_14_3e81ce rfl ?_
    refine r_aI mx_154 li_154_15 h (fun v2 h => ?_)
    refine EV_stq mx_154 (pc' := 17) (L' := [some (.ref l0), some (.int l1), some (.int l2), none]) (st' := [.int (((4 : Int32) * l1) + v2), .int (l2 + (1 : Int32))]) bo_154_16_862b1a rfl ?_
    refine h_ge h (fun h hc => ?_) (fun h hc => ?_)
    · refine r_icT mx_154 li_154_17 (by decide) rfl hc ?_
      refine EV_stq mx_154 (pc' := 120) (L' := [some (.ref l0), some (.int l1), some (.int l2), none]) (st' := [.ref l0]) bo_154_119_726151 rfl ?_
      refine r_gA mx_154 li_154_120 fd_14_129 rfl h (fun a3 h => ?_)
      refine EV_stq mx_154 (pc' := 125) (L' := [some (.ref l0), some (.int l1), some (.int l2), none]) (st' := [.int l1, .ref a3, .int l1, .ref a3]) bo_154_123_30aefa rfl ?_
      refine r_aI mx_154 li_154_125 h (fun v4 h => ?_)
      refine EV_stq mx_154 (pc' := 128) (L' := [some (.ref l0), some (.int l1), some (.int l2), none]) (st' := [.int (v4 - (1 : Int32)), .int l1, .ref a3]) bo_154_126_66327d rfl ?_
      refine r_sI mx_154 li_154_128 h (fun M5 h => ?_)
      refine EV_stq mx_154 (pc' := 130) (L' := [some (.ref l0), some (.int l1), some (.int l2), none]) (st' := [.ref l0]) bo_154_129_624512 rfl ?_
      refine r_gA mx_154 li_154_130 fd_14_132 rfl h (fun a6 h => ?_)
      refine EV_stq mx_154 (pc' := 135) (L' := [some (.ref l0), some (.int l1), some (.int l2), none]) (st' := [.int (0 : Int32), .int l1, .ref a6]) bo_154_133_053401 rfl ?_
      refine r_sI mx_154 li_154_135 h (fun M7 h => ?_)
      obtain rfl := Option.some.inj h
      exact r_ret mx_154 li_154_136 rfl rfl
    · refine r_icF mx_154 li_154_17 (by decide) hc ?_
      refine EV_stq mx_154 (pc' := 21) (L' := [some (.ref l0), some (.int l1), some (.int l2), none]) (st' := [.ref l0]) bo_154_20_baa9a0 rfl ?_
      refine r_gA mx_154 li_154_21 fd_14_135 rfl h (fun a8 h => ?_)
      refine EV_stq mx_154 (pc' := 26) (L' := [some (.ref l0), some (.int l1), some (.int l2), none]) (st' := [.ref l0, .int l2, .ref a8]) bo_154_24_35ae4e rfl ?_
      refine r_gA mx_154 li_154_26 fd_14_135 rfl h (fun a9 h => ?_)
      refine EV_stq mx_154 (pc' := 32) (L' := [some (.ref l0), some (.int l1), some (.int l2), none]) (st' := [.int (l2 + (1 : Int32)), .ref a9, .int l2, .ref a8]) bo_154_29_a80446 rfl ?_
      refine r_aI mx_154 li_154_32 h (fun v10 h => ?_)
      refine r_sI mx_154 li_154_33 h (fun M11 h => ?_)
      refine EV_stq mx_154 (pc' := 36) (L' := [some (.ref l0), some (.int l1), some (.int l2), some (.int (0 : Int32))]) (st' := []) bo_154_34_812988 rfl ?_
      exact e_m_pops_36 hd _ ih FU l0 l1 l2 (0 : Int32) M11 r h
theorem e_m_pops {d : Nat} (hd : 0 ≤ d) (p0 : Nat) (p1 : Int32) (M : Mem) (r : Mem) (h : f_m_pops p0 p1 M = some r) : EV d 154 0 (entL 4 [.ref p0, .int p1]) [] M (none, r) := by
  show EV d 154 0 [some (.ref p0), some (.int p1), none, none] [] M _
  unfold f_m_pops at h
  refine EV_stq mx_154 (pc' := 4) (L' := [some (.ref p0), some (.int p1), some (.int ((4 : Int32) * p1)), none]) (st' := []) bo_154_0_5a4d31 rfl ?_
  exact e_m_pops_4 hd FU p0 p1 ((4 : Int32) * p1) M r h
theorem e_m_saves_79 {d : Nat} (hd : 1 ≤ d) (k2 : Nat → Int32 → Int32 → Int32 → Mem → Option (Mem)) (hk2 : ∀ l0 l1 l2 l3 M r, k2 l0 l1 l2 l3 M = some r → EV d 155 2 [some (.ref l0), some (.int l1), some (.int l2), some (.int l3), none] [] M (none, r)) (l0 : Nat) (l1 : Int32) (l2 : Int32) (l3 : Int32) (M : Mem) (r : Mem) (h : f_m_saves_79 k2 l0 l1 l2 l3 M = some r) : EV d 155 79 [some (.ref l0), some (.int l1), some (.int l2), some (.int l3), none] [] M (none, r) := by
  unfold f_m_saves_79 at h
  refine EV_stq mx_155 (pc' := 2) (L' := [some (.ref l0), some (.int l1), some (.int l2), some (.int (l3 + (1 : Int32))), none]) (st' := []) bo_155_79_19d3c4 rfl ?_
  exact hk2 l0 l1 l2 (l3 + (1 : Int32)) M r h
theorem e_m_saves_85 {d : Nat} (hd : 1 ≤ d) (l0 : Nat) (l1 : Int32) (l2 : Int32) (M : Mem) (r : Mem) (h : f_m_saves_85 l0 l1 l2 M = some r) : EV d 155 85 [some (.ref l0), some (.int l1), some (.int l2), none, none] [] M (none, r) := by
  unfold f_m_saves_85 at h
  refine EV_stq mx_155 (pc' := 86) (L' := [some (.ref l0), some (.int l1), some (.int l2), none, none]) (st' := [.ref l0]) bo_155_85_4765e0 rfl ?_
  refine r_gA mx_155 li_155_86 fd_14_87 rfl h (fun a1 h => ?_)
  refine EV_stq mx_155 (pc' := 91) (L' := [some (.ref l0), some (.int l1), some (.int l2), none, none]) (st' := [.int l2, .int l1, .ref a1]) bo_155_89_e2064f rfl ?_
  refine h_cI h (fun v3 M2 e h => ?_)
  refine EV_call [.int l1, .int l2] [.ref a1] mx_155 li_155_91 rfl rfl si_14_288 rfl (by decide) (by decide) (by omega) ma_141 rfl (Nat.le_of_ble_eq_true rfl) rfl rfl (Nat.le_of_ble_eq_true rfl) rfl (e_m_spot (by omega) l1 l2 M _ e) ?_
  show EV d 155 94 [some (.ref l0), some (.int l1), some (.int l2), none, none] [.int v3, .ref a1] M2 _
  refine EV_stq mx_155 (pc' := 95) (L' := [some (.ref l0), some (.int l1), some (.int l2), none, none]) (st' := [.ref l0, .int v3, .ref a1]) bo_155_94_6615ab rfl ?_
  refine r_gA mx_155 li_155_95 fd_14_84 rfl h (fun a4 h => ?_)
  refine EV_stq mx_155 (pc' := 100) (L' := [some (.ref l0), some (.int l1), some (.int l2), none, none]) (st' := [.int l2, .int l1, .ref a4, .int v3, .ref a1]) bo_155_98_51a86b rfl ?_
  refine h_cI h (fun v6 M5 e h => ?_)
  refine EV_call [.int l1, .int l2] [.ref a4, .int v3, .ref a1] mx_155 li_155_100 rfl rfl si_14_288 rfl (by decide) (by decide) (by omega) ma_141 rfl (Nat.le_of_ble_eq_true rfl) rfl rfl (Nat.le_of_ble_eq_true rfl) rfl (e_m_spot (by omega) l1 l2 M2 _ e) ?_
  show EV d 155 103 [some (.ref l0), some (.int l1), some (.int l2), none, none] [.int v6, .ref a4, .int v3, .ref a1] M5 _
  refine r_aI mx_155 li_155_103 h (fun v7 h => ?_)
  refine r_sI mx_155 li_155_104 h (fun M8 h => ?_)
  obtain rfl := Option.some.inj h
  exact r_ret mx_155 li_155_105 rfl rfl
theorem e_m_saves_2 {d : Nat} (hd : 1 ≤ d) : ∀ (n : Nat) (l0 : Nat) (l1 : Int32) (l2 : Int32) (l3 : Int32) (M : Mem) (r : Mem), f_m_saves_2 n l0 l1 l2 l3 M = some r → EV d 155 2 [some (.ref l0), some (.int l1), some (.int l2), some (.int l3), none] [] M (none, r) := by
  intro n
  induction n with
  | zero => intro l0 l1 l2 l3 M r h; cases h
  | succ n ih =>
    intro l0 l1 l2 l3 M r h
    unfold f_m_saves_2 at h
    refine EV_stq mx_155 (pc' := 5) (L' := [some (.ref l0), some (.int l1), some (.int l2), some (.int l3), none]) (st' := [.int (16 : Int32), .int l3]) bo_155_2_d916f9 rfl ?_
    refine h_ge h (fun h hc => ?_) (fun h hc => ?_)
    · refine r_icT mx_155 li_155_5 (by decide) rfl hc ?_
      refine EV_forget (A := [some (.ref l0), some (.int l1), some (.int l2), none, none]) (lsub_of _ _ ⟨Or.inr rfl, ⟨Or.inr rfl, ⟨Or.inr rfl, ⟨Or.inl rfl, ⟨Or.inl rfl, trivial⟩⟩⟩⟩⟩) ?_
      exact e_m_saves_85 hd l0 l1 l2 M r h
    · refine r_icF mx_155 li_155_5 (by decide) hc ?_
      refine EV_stq mx_155 (pc' := 10) (L' := [some (.ref l0), some (.int l1), some (.int l2), some (.int l3), none]) (st' := [.int l1, .ref l0]) bo_155_8_0adad6 rfl ?_
      refine h_ck h (fun hc h => ?_)
      refine h_cI h (fun v2 M1 e h => ?_)
      refine EV_call [.ref l0, .int l1] [] mx_155 li_155_10 rfl rfl si_14_281 rfl (by decide) (by decide) (by omega) ma_142 rfl (Nat.le_of_ble_eq_true rfl) rfl rfl (Nat.le_of_ble_eq_true rfl) (rc_1 mt_at_142 rfl rfl (by decide) hc) (e_m_isKeyed (by omega) l0 l1 M _ e) ?_
      show EV d 155 13 [some (.ref l0), some (.int l1), some (.int l2), some (.int l3), none] [.int v2] M1 _
      refine h_eq h (fun h hc => ?_) (fun h hc => ?_)
      · refine r_ifT mx_155 li_155_13 (by decide) rfl hc ?_
        refine EV_forget (A := [some (.ref l0), some (.int l1), some (.int l2), none, none]) (lsub_of _ _ ⟨Or.inr rfl, ⟨Or.inr rfl, ⟨Or.inr rfl, ⟨Or.inl rfl, ⟨Or.inl rfl, trivial⟩⟩⟩⟩⟩) ?_
        exact e_m_saves_85 hd l0 l1 l2 M1 r h
      · refine r_ifF mx_155 li_155_13 (by decide) hc ?_
        refine EV_stq mx_155 (pc' := 27) (L' := [some (.ref l0), some (.int l1), some (.int l2), some (.int l3), some (.int (((16 : Int32) * l1) + l3))]) (st' := [.int l3, .int l1, .ref l0]) bo_155_16_f5136c rfl ?_
        refine h_ck h (fun hc h => ?_)
        refine h_cI h (fun v4 M3 e h => ?_)
        refine EV_call [.ref l0, .int l1, .int l3] [] mx_155 li_155_27 rfl rfl si_14_285 rfl (by decide) (by decide) (by omega) ma_143 rfl (Nat.le_of_ble_eq_true rfl) rfl rfl (Nat.le_of_ble_eq_true rfl) (rc_1 mt_at_143 rfl rfl (by decide) hc) (e_m_home (by omega) l0 l1 l3 M1 _ e) ?_
        show EV d 155 30 [some (.ref l0), some (.int l1), some (.int l2), some (.int l3), some (.int (((16 : Int32) * l1) + l3))] [.int v4] M3 _
        refine EV_stq mx_155 (pc' := 31) (L' := [some (.ref l0), some (.int l1), some (.int l2), some (.int l3), some (.int (((16 : Int32) * l1) + l3))]) (st' := [.int l2, .int v4]) bo_155_30_0b4e4a rfl ?_
        refine h_eq h (fun h hc => ?_) (fun h hc => ?_)
        · refine r_icT mx_155 li_155_31 (by decide) rfl hc ?_
          refine EV_stq mx_155 (pc' := 38) (L' := [some (.ref l0), some (.int l1), some (.int l2), some (.int l3), some (.int (((16 : Int32) * l1) + l3))]) (st' := [.ref l0]) bo_155_37_a21c9f rfl ?_
          refine r_gA mx_155 li_155_38 fd_14_60 rfl h (fun a5 h => ?_)
          refine EV_stq mx_155 (pc' := 44) (L' := [some (.ref l0), some (.int l1), some (.int l2), some (.int l3), some (.int (((16 : Int32) * l1) + l3))]) (st' := [.ref l0, .int (((16 : Int32) * l1) + l3), .ref a5]) bo_155_41_ce15fd rfl ?_
          refine r_gA mx_155 li_155_44 fd_14_56 rfl h (fun a6 h => ?_)
          refine EV_stq mx_155 (pc' := 49) (L' := [some (.ref l0), some (.int l1), some (.int l2), some (.int l3), some (.int (((16 : Int32) * l1) + l3))]) (st' := [.int (((16 : Int32) * l1) + l3), .ref a6, .int (((16 : Int32) * l1) + l3), .ref a5]) bo_155_47_d7fa8e rfl ?_
          refine r_aB mx_155 li_155_49 h (fun v7 h => ?_)
          refine r_sB mx_155 li_155_50 h (fun M8 h => ?_)
          refine EV_stq mx_155 (pc' := 52) (L' := [some (.ref l0), some (.int l1), some (.int l2), some (.int l3), some (.int (((16 : Int32) * l1) + l3))]) (st' := [.ref l0]) bo_155_51_93c172 rfl ?_
          refine r_gA mx_155 li_155_52 fd_14_69 rfl h (fun a9 h => ?_)
          refine EV_stq mx_155 (pc' := 58) (L' := [some (.ref l0), some (.int l1), some (.int l2), some (.int l3), some (.int (((16 : Int32) * l1) + l3))]) (st' := [.ref l0, .int (((16 : Int32) * l1) + l3), .ref a9]) bo_155_55_6a6cc2 rfl ?_
          refine r_gA mx_155 li_155_58 fd_14_66 rfl h (fun a10 h => ?_)
          refine EV_stq mx_155 (pc' := 63) (L' := [some (.ref l0), some (.int l1), some (.int l2), some (.int l3), some (.int (((16 : Int32) * l1) + l3))]) (st' := [.int (((16 : Int32) * l1) + l3), .ref a10, .int (((16 : Int32) * l1) + l3), .ref a9]) bo_155_61_769b30 rfl ?_
          refine r_aI mx_155 li_155_63 h (fun v11 h => ?_)
          refine r_sI mx_155 li_155_64 h (fun M12 h => ?_)
          refine EV_stq mx_155 (pc' := 66) (L' := [some (.ref l0), some (.int l1), some (.int l2), some (.int l3), some (.int (((16 : Int32) * l1) + l3))]) (st' := [.ref l0]) bo_155_65_a2326b rfl ?_
          refine r_gA mx_155 li_155_66 fd_14_78 rfl h (fun a13 h => ?_)
          refine EV_stq mx_155 (pc' := 72) (L' := [some (.ref l0), some (.int l1), some (.int l2), some (.int l3), some (.int (((16 : Int32) * l1) + l3))]) (st' := [.ref l0, .int (((16 : Int32) * l1) + l3), .ref a13]) bo_155_69_8c58f6 rfl ?_
          refine r_gA mx_155 li_155_72 fd_14_75 rfl h (fun a14 h => ?_)
          refine EV_stq mx_155 (pc' := 77) (L' := [some (.ref l0), some (.int l1), some (.int l2), some (.int l3), some (.int (((16 : Int32) * l1) + l3))]) (st' := [.int (((16 : Int32) * l1) + l3), .ref a14, .int (((16 : Int32) * l1) + l3), .ref a13]) bo_155_75_1f1f88 rfl ?_
          refine r_aI mx_155 li_155_77 h (fun v15 h => ?_)
          refine r_sI mx_155 li_155_78 h (fun M16 h => ?_)
          refine EV_forget (A := [some (.ref l0), some (.int l1), some (.int l2), some (.int l3), none]) (lsub_of _ _ ⟨Or.inr rfl, ⟨Or.inr rfl, ⟨Or.inr rfl, ⟨Or.inr rfl, ⟨Or.inl rfl, trivial⟩⟩⟩⟩⟩) ?_
          exact e_m_saves_79 hd _ ih l0 l1 l2 l3 M16 r h
        · refine r_icF mx_155 li_155_31 (by decide) hc ?_
          refine EV_stq mx_155 (pc' := 79) (L' := [some (.ref l0), some (.int l1), some (.int l2), some (.int l3), some (.int (((16 : Int32) * l1) + l3))]) (st' := []) bo_155_34_130638 rfl ?_
          refine EV_forget (A := [some (.ref l0), some (.int l1), some (.int l2), some (.int l3), none]) (lsub_of _ _ ⟨Or.inr rfl, ⟨Or.inr rfl, ⟨Or.inr rfl, ⟨Or.inr rfl, ⟨Or.inl rfl, trivial⟩⟩⟩⟩⟩) ?_
          exact e_m_saves_79 hd _ ih l0 l1 l2 l3 M3 r h
theorem e_m_saves {d : Nat} (hd : 1 ≤ d) (p0 : Nat) (p1 : Int32) (p2 : Int32) (M : Mem) (r : Mem) (h : f_m_saves p0 p1 p2 M = some r) : EV d 155 0 (entL 5 [.ref p0, .int p1, .int p2]) [] M (none, r) := by
  show EV d 155 0 [some (.ref p0), some (.int p1), some (.int p2), none, none] [] M _
  unfold f_m_saves at h
  refine EV_stq mx_155 (pc' := 2) (L' := [some (.ref p0), some (.int p1), some (.int p2), some (.int (0 : Int32)), none]) (st' := []) bo_155_0_264884 rfl ?_
  exact e_m_saves_2 hd FU p0 p1 p2 (0 : Int32) M r h
theorem e_m_completes_52 {d : Nat} (hd : 0 ≤ d) : ∀ (n : Nat) (l0 : Nat) (l1 : Int32) (M : Mem) (r : Mem), f_m_completes_52 n l0 l1 M = some r → EV d 156 52 [some (.ref l0), some (.int l1)] [] M (none, r) := by
  intro n
  induction n with
  | zero => intro l0 l1 M r h; cases h
  | succ n ih =>
    intro l0 l1 M r h
    unfold f_m_completes_52 at h
    refine EV_stq mx_156 (pc' := 55) (L' := [some (.ref l0), some (.int l1)]) (st' := [.int (18 : Int32), .int l1]) bo_156_52_9f6391 rfl ?_
    refine h_ge h (fun h hc => ?_) (fun h hc => ?_)
    · refine r_icT mx_156 li_156_55 (by decide) rfl hc ?_
      refine EV_stq mx_156 (pc' := 78) (L' := [some (.ref l0), some (.int l1)]) (st' := [.ref l0, .ref l0]) bo_156_76_3caaf4 rfl ?_
      refine r_gI mx_156 li_156_78 fd_14_312 ⟨by decide, by decide⟩ h (fun v1 h => ?_)
      refine r_pI mx_156 li_156_81 fd_14_262 (Or.inl rfl) rfl h (fun M2 h => ?_)
      refine EV_stq mx_156 (pc' := 86) (L' := [some (.ref l0), some (.int l1)]) (st' := [.ref l0, .ref l0]) bo_156_84_fc726c rfl ?_
      refine r_gI mx_156 li_156_86 fd_14_268 ⟨by decide, by decide⟩ h (fun v3 h => ?_)
      refine r_pI mx_156 li_156_89 fd_14_253 (Or.inl rfl) rfl h (fun M4 h => ?_)
      refine EV_stq mx_156 (pc' := 94) (L' := [some (.ref l0), some (.int l1)]) (st' := [.int (0 : Int32), .ref l0]) bo_156_92_f850a5 rfl ?_
      refine r_pI mx_156 li_156_94 fd_14_268 (Or.inl rfl) rfl h (fun M5 h => ?_)
      obtain rfl := Option.some.inj h
      exact r_ret mx_156 li_156_97 rfl rfl
    · refine r_icF mx_156 li_156_55 (by decide) hc ?_
      refine EV_stq mx_156 (pc' := 59) (L' := [some (.ref l0), some (.int l1)]) (st' := [.ref l0]) bo_156_58_df393a rfl ?_
      refine r_gA mx_156 li_156_59 fd_14_90 rfl h (fun a6 h => ?_)
      refine EV_stq mx_156 (pc' := 64) (L' := [some (.ref l0), some (.int l1)]) (st' := [.ref l0, .int l1, .ref a6]) bo_156_62_322124 rfl ?_
      refine r_gA mx_156 li_156_64 fd_14_87 rfl h (fun a7 h => ?_)
      refine EV_stq mx_156 (pc' := 68) (L' := [some (.ref l0), some (.int l1)]) (st' := [.int l1, .ref a7, .int l1, .ref a6]) bo_156_67_ded3a4 rfl ?_
      refine r_aI mx_156 li_156_68 h (fun v8 h => ?_)
      refine r_sI mx_156 li_156_69 h (fun M9 h => ?_)
      refine EV_stq mx_156 (pc' := 52) (L' := [some (.ref l0), some (.int (l1 + (1 : Int32)))]) (st' := []) bo_156_70_4e5c70 rfl ?_
      exact ih l0 (l1 + (1 : Int32)) M9 r h
theorem e_m_completes_2 {d : Nat} (hd : 0 ≤ d) : ∀ (n : Nat) (l0 : Nat) (l1 : Int32) (M : Mem) (r : Mem), f_m_completes_2 n l0 l1 M = some r → EV d 156 2 [some (.ref l0), some (.int l1)] [] M (none, r) := by
  intro n
  induction n with
  | zero => intro l0 l1 M r h; cases h
  | succ n ih =>
    intro l0 l1 M r h
    unfold f_m_completes_2 at h
    refine EV_stq mx_156 (pc' := 5) (L' := [some (.ref l0), some (.int l1)]) (st' := [.int (96 : Int32), .int l1]) bo_156_2_d916f9 rfl ?_
    refine h_ge h (fun h hc => ?_) (fun h hc => ?_)
    · refine r_icT mx_156 li_156_5 (by decide) rfl hc ?_
      refine EV_stq mx_156 (pc' := 52) (L' := [some (.ref l0), some (.int (0 : Int32))]) (st' := []) bo_156_50_b22ebb rfl ?_
      exact e_m_completes_52 hd FU l0 (0 : Int32) M r h
    · refine r_icF mx_156 li_156_5 (by decide) hc ?_
      refine EV_stq mx_156 (pc' := 9) (L' := [some (.ref l0), some (.int l1)]) (st' := [.ref l0]) bo_156_8_383530 rfl ?_
      refine r_gA mx_156 li_156_9 fd_14_63 rfl h (fun a1 h => ?_)
      refine EV_stq mx_156 (pc' := 14) (L' := [some (.ref l0), some (.int l1)]) (st' := [.ref l0, .int l1, .ref a1]) bo_156_12_1089ca rfl ?_
      refine r_gA mx_156 li_156_14 fd_14_60 rfl h (fun a2 h => ?_)
      refine EV_stq mx_156 (pc' := 18) (L' := [some (.ref l0), some (.int l1)]) (st' := [.int l1, .ref a2, .int l1, .ref a1]) bo_156_17_509256 rfl ?_
      refine r_aB mx_156 li_156_18 h (fun v3 h => ?_)
      refine r_sB mx_156 li_156_19 h (fun M4 h => ?_)
      refine EV_stq mx_156 (pc' := 21) (L' := [some (.ref l0), some (.int l1)]) (st' := [.ref l0]) bo_156_20_baa9a0 rfl ?_
      refine r_gA mx_156 li_156_21 fd_14_72 rfl h (fun a5 h => ?_)
      refine EV_stq mx_156 (pc' := 26) (L' := [some (.ref l0), some (.int l1)]) (st' := [.ref l0, .int l1, .ref a5]) bo_156_24_35ae4e rfl ?_
      refine r_gA mx_156 li_156_26 fd_14_69 rfl h (fun a6 h => ?_)
      refine EV_stq mx_156 (pc' := 30) (L' := [some (.ref l0), some (.int l1)]) (st' := [.int l1, .ref a6, .int l1, .ref a5]) bo_156_29_2d7a5f rfl ?_
      refine r_aI mx_156 li_156_30 h (fun v7 h => ?_)
      refine r_sI mx_156 li_156_31 h (fun M8 h => ?_)
      refine EV_stq mx_156 (pc' := 33) (L' := [some (.ref l0), some (.int l1)]) (st' := [.ref l0]) bo_156_32_191034 rfl ?_
      refine r_gA mx_156 li_156_33 fd_14_81 rfl h (fun a9 h => ?_)
      refine EV_stq mx_156 (pc' := 38) (L' := [some (.ref l0), some (.int l1)]) (st' := [.ref l0, .int l1, .ref a9]) bo_156_36_285c9e rfl ?_
      refine r_gA mx_156 li_156_38 fd_14_78 rfl h (fun a10 h => ?_)
      refine EV_stq mx_156 (pc' := 42) (L' := [some (.ref l0), some (.int l1)]) (st' := [.int l1, .ref a10, .int l1, .ref a9]) bo_156_41_45abaf rfl ?_
      refine r_aI mx_156 li_156_42 h (fun v11 h => ?_)
      refine r_sI mx_156 li_156_43 h (fun M12 h => ?_)
      refine EV_stq mx_156 (pc' := 2) (L' := [some (.ref l0), some (.int (l1 + (1 : Int32)))]) (st' := []) bo_156_44_bb7a25 rfl ?_
      exact ih l0 (l1 + (1 : Int32)) M12 r h
theorem e_m_completes {d : Nat} (hd : 0 ≤ d) (p0 : Nat) (M : Mem) (r : Mem) (h : f_m_completes p0 M = some r) : EV d 156 0 (entL 2 [.ref p0]) [] M (none, r) := by
  show EV d 156 0 [some (.ref p0), none] [] M _
  unfold f_m_completes at h
  refine EV_stq mx_156 (pc' := 2) (L' := [some (.ref p0), some (.int (0 : Int32))]) (st' := []) bo_156_0_264884 rfl ?_
  exact e_m_completes_2 hd FU p0 (0 : Int32) M r h
theorem e_m_barrier {d : Nat} (hd : 2 ≤ d) (p0 : Nat) (p1 : Int32) (p2 : Int32) (p3 : Int32) (M : Mem) (r : Mem) (h : f_m_barrier p0 p1 p2 p3 M = some r) : EV d 157 0 (entL 5 [.ref p0, .int p1, .int p2, .int p3]) [] M (none, r) := by
  show EV d 157 0 [some (.ref p0), some (.int p1), some (.int p2), some (.int p3), none] [] M _
  unfold f_m_barrier at h
  refine EV_stq mx_157 (pc' := 2) (L' := [some (.ref p0), some (.int p1), some (.int p2), some (.int p3), none]) (st' := [.int p2, .int p1]) bo_157_0_264884 rfl ?_
  refine h_cI h (fun v2 M1 e h => ?_)
  refine EV_call [.int p1, .int p2] [] mx_157 li_157_2 rfl rfl si_14_288 rfl (by decide) (by decide) (by omega) ma_141 rfl (Nat.le_of_ble_eq_true rfl) rfl rfl (Nat.le_of_ble_eq_true rfl) rfl (e_m_spot (by omega) p1 p2 M _ e) ?_
  show EV d 157 5 [some (.ref p0), some (.int p1), some (.int p2), some (.int p3), none] [.int v2] M1 _
  refine EV_stq mx_157 (pc' := 8) (L' := [some (.ref p0), some (.int p1), some (.int p2), some (.int p3), some (.int v2)]) (st' := [.ref p0]) bo_157_5_b1d84f rfl ?_
  refine r_gA mx_157 li_157_8 fd_14_105 rfl h (fun a3 h => ?_)
  refine EV_stq mx_157 (pc' := 14) (L' := [some (.ref p0), some (.int p1), some (.int p2), some (.int p3), some (.int v2)]) (st' := [.int v2, .ref a3, .int v2, .ref a3]) bo_157_11_1361d3 rfl ?_
  refine r_aI mx_157 li_157_14 h (fun v4 h => ?_)
  refine EV_stq mx_157 (pc' := 19) (L' := [some (.ref p0), some (.int p1), some (.int p2), some (.int p3), some (.int v2)]) (st' := [.int (v4 ||| ((1 : Int32) <<< (p3 &&& 31))), .int v2, .ref a3]) bo_157_15_304ad9 rfl ?_
  refine r_sI mx_157 li_157_19 h (fun M5 h => ?_)
  refine EV_stq mx_157 (pc' := 21) (L' := [some (.ref p0), some (.int p1), some (.int p2), some (.int p3), some (.int v2)]) (st' := [.ref p0]) bo_157_20_baa9a0 rfl ?_
  refine r_gA mx_157 li_157_21 fd_14_105 rfl h (fun a6 h => ?_)
  refine EV_stq mx_157 (pc' := 26) (L' := [some (.ref p0), some (.int p1), some (.int p2), some (.int p3), some (.int v2)]) (st' := [.int v2, .ref a6]) bo_157_24_99aa1d rfl ?_
  refine r_aI mx_157 li_157_26 h (fun v7 h => ?_)
  refine EV_stq mx_157 (pc' := 29) (L' := [some (.ref p0), some (.int p1), some (.int p2), some (.int p3), some (.int v2)]) (st' := [.ref p0, .int (1 : Int32), .int v7]) bo_157_27_fe3fdb rfl ?_
  refine r_gA mx_157 li_157_29 fd_14_22 rfl h (fun a8 h => ?_)
  refine EV_stq mx_157 (pc' := 35) (L' := [some (.ref p0), some (.int p1), some (.int p2), some (.int p3), some (.int v2)]) (st' := [.int (p1 - (1 : Int32)), .ref a8, .int (1 : Int32), .int v7]) bo_157_32_c319a3 rfl ?_
  refine r_aI mx_157 li_157_35 h (fun v9 h => ?_)
  refine EV_stq mx_157 (pc' := 39) (L' := [some (.ref p0), some (.int p1), some (.int p2), some (.int p3), some (.int v2)]) (st' := [.int (((1 : Int32) <<< (v9 &&& 31)) - (1 : Int32)), .int v7]) bo_157_36_279f11 rfl ?_
  refine h_eq h (fun h hc => ?_) (fun h hc => ?_)
  · refine r_icT mx_157 li_157_39 (by decide) rfl hc ?_
    refine EV_stq mx_157 (pc' := 44) (L' := [some (.ref p0), some (.int p1), some (.int p2), some (.int p3), some (.int v2)]) (st' := [.ref p0]) bo_157_43_d85b47 rfl ?_
    refine r_gA mx_157 li_157_44 fd_14_105 rfl h (fun a10 h => ?_)
    refine EV_stq mx_157 (pc' := 50) (L' := [some (.ref p0), some (.int p1), some (.int p2), some (.int p3), some (.int v2)]) (st' := [.int (0 : Int32), .int v2, .ref a10]) bo_157_47_3cd117 rfl ?_
    refine r_sI mx_157 li_157_50 h (fun M11 h => ?_)
    refine EV_stq mx_157 (pc' := 54) (L' := [some (.ref p0), some (.int p1), some (.int p2), some (.int p3), some (.int v2)]) (st' := [.int p2, .int p1, .ref p0]) bo_157_51_82f556 rfl ?_
    refine h_ck h (fun hc h => ?_)
    refine h_cV h (fun M12 e h => ?_)
    refine EV_call [.ref p0, .int p1, .int p2] [] mx_157 li_157_54 rfl rfl si_14_315 rfl (by decide) (by decide) (by omega) ma_155 rfl (Nat.le_of_ble_eq_true rfl) rfl rfl (Nat.le_of_ble_eq_true rfl) (rc_1 mt_at_155 rfl rfl (by decide) hc) (e_m_saves (by omega) p0 p1 p2 M11 _ e) ?_
    show EV d 157 57 [some (.ref p0), some (.int p1), some (.int p2), some (.int p3), some (.int v2)] [] M12 _
    refine EV_stq mx_157 (pc' := 59) (L' := [some (.ref p0), some (.int p1), some (.int p2), some (.int p3), some (.int v2)]) (st' := [.ref p0, .int p1]) bo_157_57_1292c4 rfl ?_
    refine h_ck h (fun hc h => ?_)
    refine h_cI h (fun v14 M13 e h => ?_)
    refine EV_call [.ref p0] [.int p1] mx_157 li_157_59 rfl rfl si_14_199 rfl (by decide) (by decide) (by omega) ma_140 rfl (Nat.le_of_ble_eq_true rfl) rfl rfl (Nat.le_of_ble_eq_true rfl) (rc_1 mt_at_140 rfl rfl (by decide) hc) (e_m_sink (by omega) p0 M12 _ e) ?_
    show EV d 157 62 [some (.ref p0), some (.int p1), some (.int p2), some (.int p3), some (.int v2)] [.int v14, .int p1] M13 _
    refine h_ge h (fun h hc => ?_) (fun h hc => ?_)
    · refine r_icT mx_157 li_157_62 (by decide) rfl hc ?_
      refine EV_stq mx_157 (pc' := 76) (L' := [some (.ref p0), some (.int p1), some (.int p2), some (.int p3), some (.int v2)]) (st' := [.ref p0, .ref p0]) bo_157_74_f61e5a rfl ?_
      refine r_gI mx_157 li_157_76 fd_14_318 ⟨by decide, by decide⟩ h (fun v15 h => ?_)
      refine EV_stq mx_157 (pc' := 81) (L' := [some (.ref p0), some (.int p1), some (.int p2), some (.int p3), some (.int v2)]) (st' := [.int (v15 + (1 : Int32)), .ref p0]) bo_157_79_5b2908 rfl ?_
      refine r_pI mx_157 li_157_81 fd_14_318 (Or.inl rfl) rfl h (fun M16 h => ?_)
      refine EV_stq mx_157 (pc' := 85) (L' := [some (.ref p0), some (.int p1), some (.int p2), some (.int p3), some (.int v2)]) (st' := [.ref p0]) bo_157_84_8a7630 rfl ?_
      refine r_gI mx_157 li_157_85 fd_14_318 ⟨by decide, by decide⟩ h (fun v17 h => ?_)
      refine EV_stq mx_157 (pc' := 89) (L' := [some (.ref p0), some (.int p1), some (.int p2), some (.int p3), some (.int v2)]) (st' := [.ref p0, .int v17]) bo_157_88_92252f rfl ?_
      refine r_gA mx_157 li_157_89 fd_14_22 rfl h (fun a18 h => ?_)
      refine EV_stq mx_157 (pc' := 93) (L' := [some (.ref p0), some (.int p1), some (.int p2), some (.int p3), some (.int v2)]) (st' := [.int p1, .ref a18, .int v17]) bo_157_92_b12865 rfl ?_
      refine r_aI mx_157 li_157_93 h (fun v19 h => ?_)
      refine h_ne h (fun h hc => ?_) (fun h hc => ?_)
      · refine r_icF mx_157 li_157_94 (by decide) hc ?_
        refine EV_stq mx_157 (pc' := 98) (L' := [some (.ref p0), some (.int p1), some (.int p2), some (.int p3), some (.int v2)]) (st' := [.ref p0]) bo_157_97_df0ce8 rfl ?_
        refine h_ck h (fun hc h => ?_)
        refine h_cV h (fun M20 e h => ?_)
        refine EV_call [.ref p0] [] mx_157 li_157_98 rfl rfl si_14_321 rfl (by decide) (by decide) (by omega) ma_156 rfl (Nat.le_of_ble_eq_true rfl) rfl rfl (Nat.le_of_ble_eq_true rfl) (rc_1 mt_at_156 rfl rfl (by decide) hc) (e_m_completes (by omega) p0 M16 _ e) ?_
        show EV d 157 101 [some (.ref p0), some (.int p1), some (.int p2), some (.int p3), some (.int v2)] [] M20 _
        obtain rfl := Option.some.inj h
        exact r_ret mx_157 li_157_101 rfl rfl
      · refine r_icT mx_157 li_157_94 (by decide) rfl hc ?_
        obtain rfl := Option.some.inj h
        exact r_ret mx_157 li_157_101 rfl rfl
    · refine r_icF mx_157 li_157_62 (by decide) hc ?_
      refine EV_stq mx_157 (pc' := 66) (L' := [some (.ref p0), some (.int p1), some (.int p2), some (.int p3), some (.int v2)]) (st' := [.ref p0]) bo_157_65_a2326b rfl ?_
      refine r_gA mx_157 li_157_66 fd_14_111 rfl h (fun a21 h => ?_)
      refine EV_stq mx_157 (pc' := 72) (L' := [some (.ref p0), some (.int p1), some (.int p2), some (.int p3), some (.int v2)]) (st' := [.int (1 : Int32), .int v2, .ref a21]) bo_157_69_8c58f6 rfl ?_
      refine r_sB mx_157 li_157_72 h (fun M22 h => ?_)
      obtain rfl := Option.some.inj h
      exact r_ret mx_157 li_157_73 rfl rfl
  · refine r_icF mx_157 li_157_39 (by decide) hc ?_
    obtain rfl := Option.some.inj h
    exact r_ret mx_157 li_157_42 rfl rfl
theorem e_m_gives {d : Nat} (hd : 0 ≤ d) (p0 : Nat) (p1 : Int32) (p2 : Int32) (M : Mem) (r : Mem) (h : f_m_gives p0 p1 p2 M = some r) : EV d 158 0 (entL 3 [.ref p0, .int p1, .int p2]) [] M (none, r) := by
  show EV d 158 0 [some (.ref p0), some (.int p1), some (.int p2)] [] M _
  unfold f_m_gives at h
  refine EV_stq mx_158 (pc' := 1) (L' := [some (.ref p0), some (.int p1), some (.int p2)]) (st' := [.ref p0]) bo_158_0_8d5162 rfl ?_
  refine r_gA mx_158 li_158_1 fd_14_163 rfl h (fun a1 h => ?_)
  refine EV_stq mx_158 (pc' := 5) (L' := [some (.ref p0), some (.int p1), some (.int p2)]) (st' := [.ref p0, .ref a1]) bo_158_4_e962e2 rfl ?_
  refine r_gI mx_158 li_158_5 fd_14_291 ⟨by decide, by decide⟩ h (fun v2 h => ?_)
  refine EV_stq mx_158 (pc' := 9) (L' := [some (.ref p0), some (.int p1), some (.int p2)]) (st' := [.int p1, .int v2, .ref a1]) bo_158_8_383530 rfl ?_
  refine r_sI mx_158 li_158_9 h (fun M3 h => ?_)
  refine EV_stq mx_158 (pc' := 11) (L' := [some (.ref p0), some (.int p1), some (.int p2)]) (st' := [.ref p0]) bo_158_10_2a30f5 rfl ?_
  refine r_gA mx_158 li_158_11 fd_14_166 rfl h (fun a4 h => ?_)
  refine EV_stq mx_158 (pc' := 15) (L' := [some (.ref p0), some (.int p1), some (.int p2)]) (st' := [.ref p0, .ref a4]) bo_158_14_3e81ce rfl ?_
  refine r_gI mx_158 li_158_15 fd_14_291 ⟨by decide, by decide⟩ h (fun v5 h => ?_)
  refine EV_stq mx_158 (pc' := 19) (L' := [some (.ref p0), some (.int p1), some (.int p2)]) (st' := [.int p2, .int v5, .ref a4]) bo_158_18_2b31d8 rfl ?_
  refine r_sI mx_158 li_158_19 h (fun M6 h => ?_)
  refine EV_stq mx_158 (pc' := 22) (L' := [some (.ref p0), some (.int p1), some (.int p2)]) (st' := [.ref p0, .ref p0]) bo_158_20_aa2fda rfl ?_
  refine r_gI mx_158 li_158_22 fd_14_291 ⟨by decide, by decide⟩ h (fun v7 h => ?_)
  refine EV_stq mx_158 (pc' := 27) (L' := [some (.ref p0), some (.int p1), some (.int p2)]) (st' := [.int (v7 + (1 : Int32)), .ref p0]) bo_158_25_6328ed rfl ?_
  refine r_pI mx_158 li_158_27 fd_14_291 (Or.inl rfl) rfl h (fun M8 h => ?_)
  obtain rfl := Option.some.inj h
  exact r_ret mx_158 li_158_30 rfl rfl
theorem e_m_rest {d : Nat} (hd : 0 ≤ d) (p0 : Int32) (M : Mem) (r : Int32 × Mem) (h : f_m_rest p0 M = some r) : EV d 159 0 (entL 2 [.int p0]) [] M (some (.int r.1), r.2) := by
  show EV d 159 0 [some (.int p0), none] [] M _
  unfold f_m_rest at h
  refine EV_stq mx_159 (pc' := 3) (L' := [some (.int p0), none]) (st' := [.int (16 : Int32), .int p0]) bo_159_0_264884 rfl ?_
  refine r_rm mx_159 li_159_3 h (fun v1 h => ?_)
  refine EV_stq mx_159 (pc' := 6) (L' := [some (.int p0), some (.int v1)]) (st' := [.int v1]) bo_159_4_40e659 rfl ?_
  refine h_ge h (fun h hc => ?_) (fun h hc => ?_)
  · refine r_ifT mx_159 li_159_6 (by decide) rfl hc ?_
    refine EV_stq mx_159 (pc' := 17) (L' := [some (.int p0), some (.int v1)]) (st' := [.int v1]) bo_159_16_862b1a rfl ?_
    obtain rfl := Option.some.inj h
    exact r_ret mx_159 li_159_17 rfl ro_int
  · refine r_ifF mx_159 li_159_6 (by decide) hc ?_
    refine EV_stq mx_159 (pc' := 17) (L' := [some (.int p0), some (.int v1)]) (st' := [.int (v1 + (16 : Int32))]) bo_159_9_efc705 rfl ?_
    obtain rfl := Option.some.inj h
    exact r_ret mx_159 li_159_17 rfl ro_int
theorem e_m_processes_144 {d : Nat} (hd : 1 ≤ d) (l0 : Nat) (l2 : Int32) (l3 : Int32) (M : Mem) (r : Mem) (h : f_m_processes_144 l0 l2 l3 M = some r) : EV d 160 144 [some (.ref l0), none, some (.int l2), some (.int l3), none, none, none, none, none, none] [] M (none, r) := by
  unfold f_m_processes_144 at h
  refine EV_stq mx_160 (pc' := 147) (L' := [some (.ref l0), none, some (.int l2), some (.int l3), none, none, none, none, none, none]) (st' := [.int l3, .int l2, .ref l0]) bo_160_144_327582 rfl ?_
  refine h_ck h (fun hc h => ?_)
  refine h_cV h (fun M1 e h => ?_)
  refine EV_call [.ref l0, .int l2, .int l3] [] mx_160 li_160_147 rfl rfl si_14_294 rfl (by decide) (by decide) (by omega) ma_158 rfl (Nat.le_of_ble_eq_true rfl) rfl rfl (Nat.le_of_ble_eq_true rfl) (rc_1 mt_at_158 rfl rfl (by decide) hc) (e_m_gives (by omega) l0 l2 l3 M _ e) ?_
  show EV d 160 150 [some (.ref l0), none, some (.int l2), some (.int l3), none, none, none, none, none, none] [] M1 _
  obtain rfl := Option.some.inj h
  exact r_ret mx_160 li_160_150 rfl rfl
theorem e_m_processes_178 {d : Nat} (hd : 1 ≤ d) : ∀ (n : Nat) (l0 : Nat) (l1 : Int32) (l2 : Int32) (l3 : Int32) (l9 : Int32) (M : Mem) (r : Mem), f_m_processes_178 n l0 l1 l2 l3 l9 M = some r → EV d 160 178 [some (.ref l0), some (.int l1), some (.int l2), some (.int l3), none, none, none, none, none, some (.int l9)] [] M (none, r) := by
  intro n
  induction n with
  | zero => intro l0 l1 l2 l3 l9 M r h; cases h
  | succ n ih =>
    intro l0 l1 l2 l3 l9 M r h
    unfold f_m_processes_178 at h
    refine EV_stq mx_160 (pc' := 181) (L' := [some (.ref l0), some (.int l1), some (.int l2), some (.int l3), none, none, none, none, none, some (.int l9)]) (st' := [.ref l0, .int l9]) bo_160_178_4e84fd rfl ?_
    refine r_gA mx_160 li_160_181 fd_14_16 rfl h (fun a1 h => ?_)
    refine EV_stq mx_160 (pc' := 185) (L' := [some (.ref l0), some (.int l1), some (.int l2), some (.int l3), none, none, none, none, none, some (.int l9)]) (st' := [.int l1, .ref a1, .int l9]) bo_160_184_35f04e rfl ?_
    refine r_aI mx_160 li_160_185 h (fun v2 h => ?_)
    refine h_ge h (fun h hc => ?_) (fun h hc => ?_)
    · refine r_icT mx_160 li_160_186 (by decide) rfl hc ?_
      obtain rfl := Option.some.inj h
      exact r_ret mx_160 li_160_204 rfl rfl
    · refine r_icF mx_160 li_160_186 (by decide) hc ?_
      refine EV_stq mx_160 (pc' := 195) (L' := [some (.ref l0), some (.int l1), some (.int l2), some (.int l3), none, none, none, none, none, some (.int l9)]) (st' := [.int (l3 + l9), .int l2, .ref l0]) bo_160_189_ed5680 rfl ?_
      refine h_ck h (fun hc h => ?_)
      refine h_cV h (fun M3 e h => ?_)
      refine EV_call [.ref l0, .int l2, .int (l3 + l9)] [] mx_160 li_160_195 rfl rfl si_14_294 rfl (by decide) (by decide) (by omega) ma_158 rfl (Nat.le_of_ble_eq_true rfl) rfl rfl (Nat.le_of_ble_eq_true rfl) (rc_1 mt_at_158 rfl rfl (by decide) hc) (e_m_gives (by omega) l0 l2 (l3 + l9) M _ e) ?_
      show EV d 160 198 [some (.ref l0), some (.int l1), some (.int l2), some (.int l3), none, none, none, none, none, some (.int l9)] [] M3 _
      refine EV_stq mx_160 (pc' := 178) (L' := [some (.ref l0), some (.int l1), some (.int l2), some (.int l3), none, none, none, none, none, some (.int (l9 + (1 : Int32)))]) (st' := []) bo_160_198_a68f79 rfl ?_
      exact ih l0 l1 l2 l3 (l9 + (1 : Int32)) M3 r h
theorem e_m_processes_358 {d : Nat} (hd : 1 ≤ d) (l4 : Nat) (l7 : Int32) (M : Mem) (r : Mem) (h : f_m_processes_358 l4 l7 M = some r) : EV d 160 358 [none, none, none, none, some (.ref l4), none, none, some (.int l7), none, none] [] M (none, r) := by
  unfold f_m_processes_358 at h
  refine EV_stq mx_160 (pc' := 363) (L' := [none, none, none, none, some (.ref l4), none, none, some (.int l7), none, none]) (st' := [.int (1 : Int32), .int l7, .ref l4]) bo_160_358_2bf652 rfl ?_
  refine r_sB mx_160 li_160_363 h (fun M1 h => ?_)
  obtain rfl := Option.some.inj h
  exact r_ret mx_160 li_160_364 rfl rfl
theorem e_m_processes_225 {d : Nat} (hd : 1 ≤ d) (l3 : Int32) (l4 : Nat) (l5 : Nat) (l6 : Nat) (l7 : Int32) (M : Mem) (r : Mem) (h : f_m_processes_225 l3 l4 l5 l6 l7 M = some r) : EV d 160 225 [none, none, none, some (.int l3), some (.ref l4), some (.ref l5), some (.ref l6), some (.int l7), none, none] [] M (none, r) := by
  unfold f_m_processes_225 at h
  refine EV_stq mx_160 (pc' := 230) (L' := [none, none, none, some (.int l3), some (.ref l4), some (.ref l5), some (.ref l6), some (.int l7), none, none]) (st' := [.int l3, .int l7, .ref l5]) bo_160_225_a55761 rfl ?_
  refine r_sI mx_160 li_160_230 h (fun M1 h => ?_)
  refine EV_stq mx_160 (pc' := 236) (L' := [none, none, none, some (.int l3), some (.ref l4), some (.ref l5), some (.ref l6), some (.int l7), none, none]) (st' := [.int (0 : Int32), .int l7, .ref l6]) bo_160_231_706a6d rfl ?_
  refine r_sI mx_160 li_160_236 h (fun M2 h => ?_)
  refine EV_stq mx_160 (pc' := 358) (L' := [none, none, none, some (.int l3), some (.ref l4), some (.ref l5), some (.ref l6), some (.int l7), none, none]) (st' := []) bo_160_237_b56014 rfl ?_
  refine EV_forget (A := [none, none, none, none, some (.ref l4), none, none, some (.int l7), none, none]) (lsub_of _ _ ⟨Or.inl rfl, ⟨Or.inl rfl, ⟨Or.inl rfl, ⟨Or.inl rfl, ⟨Or.inr rfl, ⟨Or.inl rfl, ⟨Or.inl rfl, ⟨Or.inr rfl, ⟨Or.inl rfl, ⟨Or.inl rfl, trivial⟩⟩⟩⟩⟩⟩⟩⟩⟩⟩) ?_
  exact e_m_processes_358 hd l4 l7 M2 r h
theorem e_m_processes_219 {d : Nat} (hd : 1 ≤ d) (l0 : Nat) (l2 : Int32) (l3 : Int32) (l4 : Nat) (l5 : Nat) (l6 : Nat) (l7 : Int32) (M : Mem) (r : Mem) (h : f_m_processes_219 l0 l2 l3 l4 l5 l6 l7 M = some r) : EV d 160 219 [some (.ref l0), none, some (.int l2), some (.int l3), some (.ref l4), some (.ref l5), some (.ref l6), some (.int l7), none, none] [] M (none, r) := by
  unfold f_m_processes_219 at h
  refine EV_stq mx_160 (pc' := 222) (L' := [some (.ref l0), none, some (.int l2), some (.int l3), some (.ref l4), some (.ref l5), some (.ref l6), some (.int l7), none, none]) (st' := [.int l3, .int l2, .ref l0]) bo_160_219_5c6145 rfl ?_
  refine h_ck h (fun hc h => ?_)
  refine h_cV h (fun M1 e h => ?_)
  refine EV_call [.ref l0, .int l2, .int l3] [] mx_160 li_160_222 rfl rfl si_14_294 rfl (by decide) (by decide) (by omega) ma_158 rfl (Nat.le_of_ble_eq_true rfl) rfl rfl (Nat.le_of_ble_eq_true rfl) (rc_1 mt_at_158 rfl rfl (by decide) hc) (e_m_gives (by omega) l0 l2 l3 M _ e) ?_
  show EV d 160 225 [some (.ref l0), none, some (.int l2), some (.int l3), some (.ref l4), some (.ref l5), some (.ref l6), some (.int l7), none, none] [] M1 _
  refine EV_forget (A := [none, none, none, some (.int l3), some (.ref l4), some (.ref l5), some (.ref l6), some (.int l7), none, none]) (lsub_of _ _ ⟨Or.inl rfl, ⟨Or.inl rfl, ⟨Or.inl rfl, ⟨Or.inr rfl, ⟨Or.inr rfl, ⟨Or.inr rfl, ⟨Or.inr rfl, ⟨Or.inr rfl, ⟨Or.inl rfl, ⟨Or.inl rfl, trivial⟩⟩⟩⟩⟩⟩⟩⟩⟩⟩) ?_
  exact e_m_processes_225 hd l3 l4 l5 l6 l7 M1 r h
theorem e_m_processes_266 {d : Nat} (hd : 1 ≤ d) (l4 : Nat) (l6 : Nat) (l7 : Int32) (M : Mem) (r : Mem) (h : f_m_processes_266 l4 l6 l7 M = some r) : EV d 160 266 [none, none, none, none, some (.ref l4), none, some (.ref l6), some (.int l7), none, none] [] M (none, r) := by
  unfold f_m_processes_266 at h
  refine EV_stq mx_160 (pc' := 271) (L' := [none, none, none, none, some (.ref l4), none, some (.ref l6), some (.int l7), none, none]) (st' := [.int (0 : Int32), .int l7, .ref l6]) bo_160_266_590e10 rfl ?_
  refine r_sI mx_160 li_160_271 h (fun M1 h => ?_)
  refine EV_stq mx_160 (pc' := 358) (L' := [none, none, none, none, some (.ref l4), none, some (.ref l6), some (.int l7), none, none]) (st' := []) bo_160_272_f6746a rfl ?_
  refine EV_forget (A := [none, none, none, none, some (.ref l4), none, none, some (.int l7), none, none]) (lsub_of _ _ ⟨Or.inl rfl, ⟨Or.inl rfl, ⟨Or.inl rfl, ⟨Or.inl rfl, ⟨Or.inr rfl, ⟨Or.inl rfl, ⟨Or.inl rfl, ⟨Or.inr rfl, ⟨Or.inl rfl, ⟨Or.inl rfl, trivial⟩⟩⟩⟩⟩⟩⟩⟩⟩⟩) ?_
  exact e_m_processes_358 hd l4 l7 M1 r h
theorem e_m_processes_254 {d : Nat} (hd : 1 ≤ d) (l0 : Nat) (l2 : Int32) (l3 : Int32) (l4 : Nat) (l5 : Nat) (l6 : Nat) (l7 : Int32) (M : Mem) (r : Mem) (h : f_m_processes_254 l0 l2 l3 l4 l5 l6 l7 M = some r) : EV d 160 254 [some (.ref l0), none, some (.int l2), some (.int l3), some (.ref l4), some (.ref l5), some (.ref l6), some (.int l7), none, none] [] M (none, r) := by
  unfold f_m_processes_254 at h
  refine EV_stq mx_160 (pc' := 257) (L' := [some (.ref l0), none, some (.int l2), some (.int l3), some (.ref l4), some (.ref l5), some (.ref l6), some (.int l7), none, none]) (st' := [.int l3, .int l2, .ref l0]) bo_160_254_15c1af rfl ?_
  refine h_ck h (fun hc h => ?_)
  refine h_cV h (fun M1 e h => ?_)
  refine EV_call [.ref l0, .int l2, .int l3] [] mx_160 li_160_257 rfl rfl si_14_294 rfl (by decide) (by decide) (by omega) ma_158 rfl (Nat.le_of_ble_eq_true rfl) rfl rfl (Nat.le_of_ble_eq_true rfl) (rc_1 mt_at_158 rfl rfl (by decide) hc) (e_m_gives (by omega) l0 l2 l3 M _ e) ?_
  show EV d 160 260 [some (.ref l0), none, some (.int l2), some (.int l3), some (.ref l4), some (.ref l5), some (.ref l6), some (.int l7), none, none] [] M1 _
  refine EV_stq mx_160 (pc' := 265) (L' := [some (.ref l0), none, some (.int l2), some (.int l3), some (.ref l4), some (.ref l5), some (.ref l6), some (.int l7), none, none]) (st' := [.int l3, .int l7, .ref l5]) bo_160_260_80af30 rfl ?_
  refine r_sI mx_160 li_160_265 h (fun M2 h => ?_)
  refine EV_forget (A := [none, none, none, none, some (.ref l4), none, some (.ref l6), some (.int l7), none, none]) (lsub_of _ _ ⟨Or.inl rfl, ⟨Or.inl rfl, ⟨Or.inl rfl, ⟨Or.inl rfl, ⟨Or.inr rfl, ⟨Or.inl rfl, ⟨Or.inr rfl, ⟨Or.inr rfl, ⟨Or.inl rfl, ⟨Or.inl rfl, trivial⟩⟩⟩⟩⟩⟩⟩⟩⟩⟩) ?_
  exact e_m_processes_266 hd l4 l6 l7 M2 r h
theorem e_m_processes_316 {d : Nat} (hd : 1 ≤ d) (l0 : Nat) (l1 : Int32) (l2 : Int32) (l4 : Nat) (l5 : Nat) (l6 : Nat) (l7 : Int32) (s0 : Int32) (s1 : Int32) (s2 : Nat) (M : Mem) (r : Mem) (h : f_m_processes_316 l0 l1 l2 l4 l5 l6 l7 s0 s1 s2 M = some r) : EV d 160 316 [some (.ref l0), some (.int l1), some (.int l2), none, some (.ref l4), some (.ref l5), some (.ref l6), some (.int l7), none, none] [.int s0, .int s1, .ref s2] M (none, r) := by
  unfold f_m_processes_316 at h
  refine r_sI mx_160 li_160_316 h (fun M1 h => ?_)
  refine EV_stq mx_160 (pc' := 318) (L' := [some (.ref l0), some (.int l1), some (.int l2), none, some (.ref l4), some (.ref l5), some (.ref l6), some (.int l7), none, none]) (st' := [.ref l0]) bo_160_317_990529 rfl ?_
  refine r_gA mx_160 li_160_318 fd_14_13 rfl h (fun a2 h => ?_)
  refine EV_stq mx_160 (pc' := 322) (L' := [some (.ref l0), some (.int l1), some (.int l2), none, some (.ref l4), some (.ref l5), some (.ref l6), some (.int l7), none, none]) (st' := [.int l1, .ref a2]) bo_160_321_ab7819 rfl ?_
  refine r_aI mx_160 li_160_322 h (fun v3 h => ?_)
  refine EV_stq mx_160 (pc' := 324) (L' := [some (.ref l0), some (.int l1), some (.int l2), none, some (.ref l4), some (.ref l5), some (.ref l6), some (.int l7), none, none]) (st' := [.int (4 : Int32), .int v3]) bo_160_323_b4e6df rfl ?_
  refine h_ne h (fun h hc => ?_) (fun h hc => ?_)
  · refine r_icF mx_160 li_160_324 (by decide) hc ?_
    refine EV_stq mx_160 (pc' := 331) (L' := [some (.ref l0), some (.int l1), some (.int l2), none, some (.ref l4), some (.ref l5), some (.ref l6), some (.int l7), none, none]) (st' := [.int l7, .ref l6]) bo_160_327_5e7b75 rfl ?_
    refine r_aI mx_160 li_160_331 h (fun v4 h => ?_)
    refine EV_stq mx_160 (pc' := 333) (L' := [some (.ref l0), some (.int l1), some (.int l2), none, some (.ref l4), some (.ref l5), some (.ref l6), some (.int l7), none, none]) (st' := [.ref l0, .int v4]) bo_160_332_d8115b rfl ?_
    refine r_gA mx_160 li_160_333 fd_14_16 rfl h (fun a5 h => ?_)
    refine EV_stq mx_160 (pc' := 337) (L' := [some (.ref l0), some (.int l1), some (.int l2), none, some (.ref l4), some (.ref l5), some (.ref l6), some (.int l7), none, none]) (st' := [.int l1, .ref a5, .int v4]) bo_160_336_94e5b5 rfl ?_
    refine r_aI mx_160 li_160_337 h (fun v6 h => ?_)
    refine h_ne h (fun h hc => ?_) (fun h hc => ?_)
    · refine r_icF mx_160 li_160_338 (by decide) hc ?_
      refine EV_stq mx_160 (pc' := 347) (L' := [some (.ref l0), some (.int l1), some (.int l2), none, some (.ref l4), some (.ref l5), some (.ref l6), some (.int l7), none, none]) (st' := [.int l7, .ref l5, .int l2, .ref l0]) bo_160_341_fecc63 rfl ?_
      refine r_aI mx_160 li_160_347 h (fun v7 h => ?_)
      refine h_ck h (fun hc h => ?_)
      refine h_cV h (fun M8 e h => ?_)
      refine EV_call [.ref l0, .int l2, .int v7] [] mx_160 li_160_348 rfl rfl si_14_294 rfl (by decide) (by decide) (by omega) ma_158 rfl (Nat.le_of_ble_eq_true rfl) rfl rfl (Nat.le_of_ble_eq_true rfl) (rc_1 mt_at_158 rfl rfl (by decide) hc) (e_m_gives (by omega) l0 l2 v7 M1 _ e) ?_
      show EV d 160 351 [some (.ref l0), some (.int l1), some (.int l2), none, some (.ref l4), some (.ref l5), some (.ref l6), some (.int l7), none, none] [] M8 _
      refine EV_stq mx_160 (pc' := 356) (L' := [some (.ref l0), some (.int l1), some (.int l2), none, some (.ref l4), some (.ref l5), some (.ref l6), some (.int l7), none, none]) (st' := [.int (0 : Int32), .int l7, .ref l4]) bo_160_351_e79e9d rfl ?_
      refine r_sB mx_160 li_160_356 h (fun M9 h => ?_)
      obtain rfl := Option.some.inj h
      exact r_ret mx_160 li_160_357 rfl rfl
    · refine r_icT mx_160 li_160_338 (by decide) rfl hc ?_
      refine EV_forget (A := [none, none, none, none, some (.ref l4), none, none, some (.int l7), none, none]) (lsub_of _ _ ⟨Or.inl rfl, ⟨Or.inl rfl, ⟨Or.inl rfl, ⟨Or.inl rfl, ⟨Or.inr rfl, ⟨Or.inl rfl, ⟨Or.inl rfl, ⟨Or.inr rfl, ⟨Or.inl rfl, ⟨Or.inl rfl, trivial⟩⟩⟩⟩⟩⟩⟩⟩⟩⟩) ?_
      exact e_m_processes_358 hd l4 l7 M1 r h
  · refine r_icT mx_160 li_160_324 (by decide) rfl hc ?_
    refine EV_forget (A := [none, none, none, none, some (.ref l4), none, none, some (.int l7), none, none]) (lsub_of _ _ ⟨Or.inl rfl, ⟨Or.inl rfl, ⟨Or.inl rfl, ⟨Or.inl rfl, ⟨Or.inr rfl, ⟨Or.inl rfl, ⟨Or.inl rfl, ⟨Or.inr rfl, ⟨Or.inl rfl, ⟨Or.inl rfl, trivial⟩⟩⟩⟩⟩⟩⟩⟩⟩⟩) ?_
    exact e_m_processes_358 hd l4 l7 M1 r h
theorem e_m_processes_295 {d : Nat} (hd : 1 ≤ d) (l0 : Nat) (l1 : Int32) (l2 : Int32) (l4 : Nat) (l5 : Nat) (l6 : Nat) (l7 : Int32) (l8 : Int32) (s0 : Int32) (s1 : Int32) (s2 : Nat) (M : Mem) (r : Mem) (h : f_m_processes_295 l0 l1 l2 l4 l5 l6 l7 l8 s0 s1 s2 M = some r) : EV d 160 295 [some (.ref l0), some (.int l1), some (.int l2), none, some (.ref l4), some (.ref l5), some (.ref l6), some (.int l7), some (.int l8), none] [.int s0, .int s1, .ref s2] M (none, r) := by
  unfold f_m_processes_295 at h
  refine r_sI mx_160 li_160_295 h (fun M1 h => ?_)
  refine EV_stq mx_160 (pc' := 302) (L' := [some (.ref l0), some (.int l1), some (.int l2), none, some (.ref l4), some (.ref l5), some (.ref l6), some (.int l7), some (.int l8), none]) (st' := [.int l8, .int l7, .ref l6]) bo_160_296_104de1 rfl ?_
  refine h_eq h (fun h hc => ?_) (fun h hc => ?_)
  · refine r_ifT mx_160 li_160_302 (by decide) rfl hc ?_
    refine EV_stq mx_160 (pc' := 316) (L' := [some (.ref l0), some (.int l1), some (.int l2), none, some (.ref l4), some (.ref l5), some (.ref l6), some (.int l7), some (.int l8), none]) (st' := [.int (1 : Int32), .int l7, .ref l6]) bo_160_315_090f0b rfl ?_
    refine EV_forget (A := [some (.ref l0), some (.int l1), some (.int l2), none, some (.ref l4), some (.ref l5), some (.ref l6), some (.int l7), none, none]) (lsub_of _ _ ⟨Or.inr rfl, ⟨Or.inr rfl, ⟨Or.inr rfl, ⟨Or.inl rfl, ⟨Or.inr rfl, ⟨Or.inr rfl, ⟨Or.inr rfl, ⟨Or.inr rfl, ⟨Or.inl rfl, ⟨Or.inl rfl, trivial⟩⟩⟩⟩⟩⟩⟩⟩⟩⟩) ?_
    exact e_m_processes_316 hd l0 l1 l2 l4 l5 l6 l7 (1 : Int32) l7 l6 M1 r h
  · refine r_ifF mx_160 li_160_302 (by decide) hc ?_
    refine EV_stq mx_160 (pc' := 309) (L' := [some (.ref l0), some (.int l1), some (.int l2), none, some (.ref l4), some (.ref l5), some (.ref l6), some (.int l7), some (.int l8), none]) (st' := [.int l7, .ref l6, .int l7, .ref l6]) bo_160_305_6ec79f rfl ?_
    refine r_aI mx_160 li_160_309 h (fun v2 h => ?_)
    refine EV_stq mx_160 (pc' := 316) (L' := [some (.ref l0), some (.int l1), some (.int l2), none, some (.ref l4), some (.ref l5), some (.ref l6), some (.int l7), some (.int l8), none]) (st' := [.int (v2 + (1 : Int32)), .int l7, .ref l6]) bo_160_310_4e6647 rfl ?_
    refine EV_forget (A := [some (.ref l0), some (.int l1), some (.int l2), none, some (.ref l4), some (.ref l5), some (.ref l6), some (.int l7), none, none]) (lsub_of _ _ ⟨Or.inr rfl, ⟨Or.inr rfl, ⟨Or.inr rfl, ⟨Or.inl rfl, ⟨Or.inr rfl, ⟨Or.inr rfl, ⟨Or.inr rfl, ⟨Or.inr rfl, ⟨Or.inl rfl, ⟨Or.inl rfl, trivial⟩⟩⟩⟩⟩⟩⟩⟩⟩⟩) ?_
    exact e_m_processes_316 hd l0 l1 l2 l4 l5 l6 l7 (v2 + (1 : Int32)) l7 l6 M1 r h
theorem e_m_processes {d : Nat} (hd : 1 ≤ d) (p0 : Nat) (p1 : Int32) (p2 : Int32) (p3 : Int32) (p4 : Nat) (p5 : Nat) (p6 : Nat) (M : Mem) (r : Mem) (h : f_m_processes p0 p1 p2 p3 p4 p5 p6 M = some r) : EV d 160 0 (entL 10 [.ref p0, .int p1, .int p2, .int p3, .ref p4, .ref p5, .ref p6]) [] M (none, r) := by
  show EV d 160 0 [some (.ref p0), some (.int p1), some (.int p2), some (.int p3), some (.ref p4), some (.ref p5), some (.ref p6), none, none, none] [] M _
  unfold f_m_processes at h
  refine EV_stq mx_160 (pc' := 2) (L' := [some (.ref p0), some (.int p1), some (.int p2), some (.int p3), some (.ref p4), some (.ref p5), some (.ref p6), none, none, none]) (st' := [.int (0 : Int32), .ref p0]) bo_160_0_264884 rfl ?_
  refine r_pI mx_160 li_160_2 fd_14_291 (Or.inl rfl) rfl h (fun M1 h => ?_)
  refine EV_stq mx_160 (pc' := 17) (L' := [some (.ref p0), some (.int p1), some (.int p2), some (.int p3), some (.ref p4), some (.ref p5), some (.ref p6), some (.int (((16 : Int32) * p1) + p2)), none, none]) (st' := [.int (((16 : Int32) * p1) + p2), .ref p4]) bo_160_5_e534d1 rfl ?_
  refine r_aB mx_160 li_160_17 h (fun v2 h => ?_)
  refine EV_stq mx_160 (pc' := 21) (L' := [some (.ref p0), some (.int p1), some (.int p2), some (.int p3), some (.ref p4), some (.ref p5), some (.ref p6), some (.int (((16 : Int32) * p1) + p2)), some (.int v2), none]) (st' := [.ref p0]) bo_160_18_af735d rfl ?_
  refine r_gA mx_160 li_160_21 fd_14_13 rfl h (fun a3 h => ?_)
  refine EV_stq mx_160 (pc' := 25) (L' := [some (.ref p0), some (.int p1), some (.int p2), some (.int p3), some (.ref p4), some (.ref p5), some (.ref p6), some (.int (((16 : Int32) * p1) + p2)), some (.int v2), none]) (st' := [.int p1, .ref a3]) bo_160_24_99aa1d rfl ?_
  refine r_aI mx_160 li_160_25 h (fun v4 h => ?_)
  refine h_sw h (fun hh e0 => ?_) (fun h e0 => ?_)
  · clear h
    subst e0
    have h := hh
    clear hh
    refine r_tsI (off := 42) mx_160 li_160_26 (by decide +kernel) (by decide +kernel) (by decide) rfl ?_
    refine EV_stq mx_160 (pc' := 72) (L' := [some (.ref p0), some (.int p1), some (.int p2), some (.int p3), some (.ref p4), some (.ref p5), some (.ref p6), some (.int (((16 : Int32) * p1) + p2)), some (.int v2), none]) (st' := [.ref p0, .int p3, .int p2, .ref p0]) bo_160_68_e39d4a rfl ?_
    refine r_gA mx_160 li_160_72 fd_14_16 rfl h (fun a5 h => ?_)
    refine EV_stq mx_160 (pc' := 76) (L' := [some (.ref p0), some (.int p1), some (.int p2), some (.int p3), some (.ref p4), some (.ref p5), some (.ref p6), some (.int (((16 : Int32) * p1) + p2)), some (.int v2), none]) (st' := [.int p1, .ref a5, .int p3, .int p2, .ref p0]) bo_160_75_1f1f88 rfl ?_
    refine r_aI mx_160 li_160_76 h (fun v6 h => ?_)
    refine EV_stq mx_160 (pc' := 79) (L' := [some (.ref p0), some (.int p1), some (.int p2), some (.int p3), some (.ref p4), some (.ref p5), some (.ref p6), some (.int (((16 : Int32) * p1) + p2)), some (.int v2), none]) (st' := [.ref p0, .int (p3 * v6), .int p2, .ref p0]) bo_160_77_3949c1 rfl ?_
    refine r_gA mx_160 li_160_79 fd_14_19 rfl h (fun a7 h => ?_)
    refine EV_stq mx_160 (pc' := 83) (L' := [some (.ref p0), some (.int p1), some (.int p2), some (.int p3), some (.ref p4), some (.ref p5), some (.ref p6), some (.int (((16 : Int32) * p1) + p2)), some (.int v2), none]) (st' := [.int p1, .ref a7, .int (p3 * v6), .int p2, .ref p0]) bo_160_82_d3719d rfl ?_
    refine r_aI mx_160 li_160_83 h (fun v8 h => ?_)
    refine EV_stq mx_160 (pc' := 85) (L' := [some (.ref p0), some (.int p1), some (.int p2), some (.int p3), some (.ref p4), some (.ref p5), some (.ref p6), some (.int (((16 : Int32) * p1) + p2)), some (.int v2), none]) (st' := [.int ((p3 * v6) + v8), .int p2, .ref p0]) bo_160_84_8a7630 rfl ?_
    refine h_ck h (fun hc h => ?_)
    refine h_cV h (fun M9 e h => ?_)
    refine EV_call [.ref p0, .int p2, .int ((p3 * v6) + v8)] [] mx_160 li_160_85 rfl rfl si_14_294 rfl (by decide) (by decide) (by omega) ma_158 rfl (Nat.le_of_ble_eq_true rfl) rfl rfl (Nat.le_of_ble_eq_true rfl) (rc_1 mt_at_158 rfl rfl (by decide) hc) (e_m_gives (by omega) p0 p2 ((p3 * v6) + v8) M1 _ e) ?_
    show EV d 160 88 [some (.ref p0), some (.int p1), some (.int p2), some (.int p3), some (.ref p4), some (.ref p5), some (.ref p6), some (.int (((16 : Int32) * p1) + p2)), some (.int v2), none] [] M9 _
    obtain rfl := Option.some.inj h
    exact r_ret mx_160 li_160_88 rfl rfl
  refine h_sw h (fun hh e1 => ?_) (fun h e1 => ?_)
  · clear h
    subst e1
    have h := hh
    clear hh
    refine r_tsI (off := 63) mx_160 li_160_26 (by decide +kernel) (by decide +kernel) (by decide) rfl ?_
    refine EV_stq mx_160 (pc' := 90) (L' := [some (.ref p0), some (.int p1), some (.int p2), some (.int p3), some (.ref p4), some (.ref p5), some (.ref p6), some (.int (((16 : Int32) * p1) + p2)), some (.int v2), none]) (st' := [.ref p0]) bo_160_89_bbca9b rfl ?_
    refine r_gA mx_160 li_160_90 fd_14_16 rfl h (fun a10 h => ?_)
    refine EV_stq mx_160 (pc' := 94) (L' := [some (.ref p0), some (.int p1), some (.int p2), some (.int p3), some (.ref p4), some (.ref p5), some (.ref p6), some (.int (((16 : Int32) * p1) + p2)), some (.int v2), none]) (st' := [.int p1, .ref a10]) bo_160_93_7021a1 rfl ?_
    refine r_aI mx_160 li_160_94 h (fun v11 h => ?_)
    refine h_ne h (fun h hc => ?_) (fun h hc => ?_)
    · refine r_ifF mx_160 li_160_95 (by decide) hc ?_
      refine EV_stq mx_160 (pc' := 100) (L' := [some (.ref p0), some (.int p1), some (.int p2), some (.int p3), some (.ref p4), some (.ref p5), some (.ref p6), some (.int (((16 : Int32) * p1) + p2)), some (.int v2), none]) (st' := [.ref p0, .int p3]) bo_160_98_51a86b rfl ?_
      refine r_gA mx_160 li_160_100 fd_14_19 rfl h (fun a18 h => ?_)
      refine EV_stq mx_160 (pc' := 104) (L' := [some (.ref p0), some (.int p1), some (.int p2), some (.int p3), some (.ref p4), some (.ref p5), some (.ref p6), some (.int (((16 : Int32) * p1) + p2)), some (.int v2), none]) (st' := [.int p1, .ref a18, .int p3]) bo_160_103_98f00a rfl ?_
      refine r_aI mx_160 li_160_104 h (fun v19 h => ?_)
      refine h_ge h (fun h hc => ?_) (fun h hc => ?_)
      · refine r_icT mx_160 li_160_105 (by decide) rfl hc ?_
        obtain rfl := Option.some.inj h
        exact r_ret mx_160 li_160_150 rfl rfl
      · refine r_icF mx_160 li_160_105 (by decide) hc ?_
        refine EV_stq mx_160 (pc' := 144) (L' := [some (.ref p0), some (.int p1), some (.int p2), some (.int p3), some (.ref p4), some (.ref p5), some (.ref p6), some (.int (((16 : Int32) * p1) + p2)), some (.int v2), none]) (st' := []) bo_160_108_99d569 rfl ?_
        refine EV_forget (A := [some (.ref p0), none, some (.int p2), some (.int p3), none, none, none, none, none, none]) (lsub_of _ _ ⟨Or.inr rfl, ⟨Or.inl rfl, ⟨Or.inr rfl, ⟨Or.inr rfl, ⟨Or.inl rfl, ⟨Or.inl rfl, ⟨Or.inl rfl, ⟨Or.inl rfl, ⟨Or.inl rfl, ⟨Or.inl rfl, trivial⟩⟩⟩⟩⟩⟩⟩⟩⟩⟩) ?_
        exact e_m_processes_144 hd p0 p2 p3 M1 r h
    · refine r_ifT mx_160 li_160_95 (by decide) rfl hc ?_
      refine EV_stq mx_160 (pc' := 112) (L' := [some (.ref p0), some (.int p1), some (.int p2), some (.int p3), some (.ref p4), some (.ref p5), some (.ref p6), some (.int (((16 : Int32) * p1) + p2)), some (.int v2), none]) (st' := [.ref p0]) bo_160_111_87438c rfl ?_
      refine r_gA mx_160 li_160_112 fd_14_16 rfl h (fun a12 h => ?_)
      refine EV_stq mx_160 (pc' := 116) (L' := [some (.ref p0), some (.int p1), some (.int p2), some (.int p3), some (.ref p4), some (.ref p5), some (.ref p6), some (.int (((16 : Int32) * p1) + p2)), some (.int v2), none]) (st' := [.int p1, .ref a12]) bo_160_115_b9a51b rfl ?_
      refine r_aI mx_160 li_160_116 h (fun v13 h => ?_)
      refine EV_stq mx_160 (pc' := 118) (L' := [some (.ref p0), some (.int p1), some (.int p2), some (.int p3), some (.ref p4), some (.ref p5), some (.ref p6), some (.int (((16 : Int32) * p1) + p2)), some (.int v2), none]) (st' := [.int (1 : Int32), .int v13]) bo_160_117_f55cfa rfl ?_
      refine h_ne h (fun h hc => ?_) (fun h hc => ?_)
      · refine r_icF mx_160 li_160_118 (by decide) hc ?_
        refine EV_stq mx_160 (pc' := 123) (L' := [some (.ref p0), some (.int p1), some (.int p2), some (.int p3), some (.ref p4), some (.ref p5), some (.ref p6), some (.int (((16 : Int32) * p1) + p2)), some (.int v2), none]) (st' := [.ref p0, .int p3]) bo_160_121_74ff17 rfl ?_
        refine r_gA mx_160 li_160_123 fd_14_19 rfl h (fun a16 h => ?_)
        refine EV_stq mx_160 (pc' := 127) (L' := [some (.ref p0), some (.int p1), some (.int p2), some (.int p3), some (.ref p4), some (.ref p5), some (.ref p6), some (.int (((16 : Int32) * p1) + p2)), some (.int v2), none]) (st' := [.int p1, .ref a16, .int p3]) bo_160_126_5d1f94 rfl ?_
        refine r_aI mx_160 li_160_127 h (fun v17 h => ?_)
        refine h_ne h (fun h hc => ?_) (fun h hc => ?_)
        · refine r_icF mx_160 li_160_128 (by decide) hc ?_
          refine EV_stq mx_160 (pc' := 144) (L' := [some (.ref p0), some (.int p1), some (.int p2), some (.int p3), some (.ref p4), some (.ref p5), some (.ref p6), some (.int (((16 : Int32) * p1) + p2)), some (.int v2), none]) (st' := []) bo_160_131_fdd2ba rfl ?_
          refine EV_forget (A := [some (.ref p0), none, some (.int p2), some (.int p3), none, none, none, none, none, none]) (lsub_of _ _ ⟨Or.inr rfl, ⟨Or.inl rfl, ⟨Or.inr rfl, ⟨Or.inr rfl, ⟨Or.inl rfl, ⟨Or.inl rfl, ⟨Or.inl rfl, ⟨Or.inl rfl, ⟨Or.inl rfl, ⟨Or.inl rfl, trivial⟩⟩⟩⟩⟩⟩⟩⟩⟩⟩) ?_
          exact e_m_processes_144 hd p0 p2 p3 M1 r h
        · refine r_icT mx_160 li_160_128 (by decide) rfl hc ?_
          obtain rfl := Option.some.inj h
          exact r_ret mx_160 li_160_150 rfl rfl
      · refine r_icT mx_160 li_160_118 (by decide) rfl hc ?_
        refine EV_stq mx_160 (pc' := 136) (L' := [some (.ref p0), some (.int p1), some (.int p2), some (.int p3), some (.ref p4), some (.ref p5), some (.ref p6), some (.int (((16 : Int32) * p1) + p2)), some (.int v2), none]) (st' := [.ref p0, .int p3]) bo_160_134_216a7f rfl ?_
        refine r_gA mx_160 li_160_136 fd_14_19 rfl h (fun a14 h => ?_)
        refine EV_stq mx_160 (pc' := 140) (L' := [some (.ref p0), some (.int p1), some (.int p2), some (.int p3), some (.ref p4), some (.ref p5), some (.ref p6), some (.int (((16 : Int32) * p1) + p2)), some (.int v2), none]) (st' := [.int p1, .ref a14, .int p3]) bo_160_139_a6de6c rfl ?_
        refine r_aI mx_160 li_160_140 h (fun v15 h => ?_)
        refine h_le h (fun h hc => ?_) (fun h hc => ?_)
        · refine r_icT mx_160 li_160_141 (by decide) rfl hc ?_
          obtain rfl := Option.some.inj h
          exact r_ret mx_160 li_160_150 rfl rfl
        · refine r_icF mx_160 li_160_141 (by decide) hc ?_
          refine EV_forget (A := [some (.ref p0), none, some (.int p2), some (.int p3), none, none, none, none, none, none]) (lsub_of _ _ ⟨Or.inr rfl, ⟨Or.inl rfl, ⟨Or.inr rfl, ⟨Or.inr rfl, ⟨Or.inl rfl, ⟨Or.inl rfl, ⟨Or.inl rfl, ⟨Or.inl rfl, ⟨Or.inl rfl, ⟨Or.inl rfl, trivial⟩⟩⟩⟩⟩⟩⟩⟩⟩⟩) ?_
          exact e_m_processes_144 hd p0 p2 p3 M1 r h
  refine h_sw h (fun hh e2 => ?_) (fun h e2 => ?_)
  · clear h
    subst e2
    have h := hh
    clear hh
    refine r_tsI (off := 125) mx_160 li_160_26 (by decide +kernel) (by decide +kernel) (by decide) rfl ?_
    refine EV_stq mx_160 (pc' := 154) (L' := [some (.ref p0), some (.int p1), some (.int p2), some (.int p3), some (.ref p4), some (.ref p5), some (.ref p6), some (.int (((16 : Int32) * p1) + p2)), some (.int v2), none]) (st' := [.ref p0, .int p2, .ref p0]) bo_160_151_853622 rfl ?_
    refine r_gA mx_160 li_160_154 fd_14_16 rfl h (fun a20 h => ?_)
    refine EV_stq mx_160 (pc' := 158) (L' := [some (.ref p0), some (.int p1), some (.int p2), some (.int p3), some (.ref p4), some (.ref p5), some (.ref p6), some (.int (((16 : Int32) * p1) + p2)), some (.int v2), none]) (st' := [.int p1, .ref a20, .int p2, .ref p0]) bo_160_157_f223cb rfl ?_
    refine r_aI mx_160 li_160_158 h (fun v21 h => ?_)
    refine EV_stq mx_160 (pc' := 161) (L' := [some (.ref p0), some (.int p1), some (.int p2), some (.int p3), some (.ref p4), some (.ref p5), some (.ref p6), some (.int (((16 : Int32) * p1) + p2)), some (.int v2), none]) (st' := [.ref p0, .int (p2 * v21), .ref p0]) bo_160_159_677142 rfl ?_
    refine r_gA mx_160 li_160_161 fd_14_19 rfl h (fun a22 h => ?_)
    refine EV_stq mx_160 (pc' := 165) (L' := [some (.ref p0), some (.int p1), some (.int p2), some (.int p3), some (.ref p4), some (.ref p5), some (.ref p6), some (.int (((16 : Int32) * p1) + p2)), some (.int v2), none]) (st' := [.int p1, .ref a22, .int (p2 * v21), .ref p0]) bo_160_164_360521 rfl ?_
    refine r_aI mx_160 li_160_165 h (fun v23 h => ?_)
    refine EV_stq mx_160 (pc' := 167) (L' := [some (.ref p0), some (.int p1), some (.int p2), some (.int p3), some (.ref p4), some (.ref p5), some (.ref p6), some (.int (((16 : Int32) * p1) + p2)), some (.int v2), none]) (st' := [.int ((p2 * v21) + v23), .ref p0]) bo_160_166_78cd3a rfl ?_
    refine h_cI h (fun v25 M24 e h => ?_)
    refine EV_call [.int ((p2 * v21) + v23)] [.ref p0] mx_160 li_160_167 rfl rfl si_14_298 rfl (by decide) (by decide) (by omega) ma_159 rfl (Nat.le_of_ble_eq_true rfl) rfl rfl (Nat.le_of_ble_eq_true rfl) rfl (e_m_rest (by omega) ((p2 * v21) + v23) M1 _ e) ?_
    show EV d 160 170 [some (.ref p0), some (.int p1), some (.int p2), some (.int p3), some (.ref p4), some (.ref p5), some (.ref p6), some (.int (((16 : Int32) * p1) + p2)), some (.int v2), none] [.int v25, .ref p0] M24 _
    refine EV_stq mx_160 (pc' := 171) (L' := [some (.ref p0), some (.int p1), some (.int p2), some (.int p3), some (.ref p4), some (.ref p5), some (.ref p6), some (.int (((16 : Int32) * p1) + p2)), some (.int v2), none]) (st' := [.int p3, .int v25, .ref p0]) bo_160_170_72150b rfl ?_
    refine h_ck h (fun hc h => ?_)
    refine h_cV h (fun M26 e h => ?_)
    refine EV_call [.ref p0, .int v25, .int p3] [] mx_160 li_160_171 rfl rfl si_14_294 rfl (by decide) (by decide) (by omega) ma_158 rfl (Nat.le_of_ble_eq_true rfl) rfl rfl (Nat.le_of_ble_eq_true rfl) (rc_1 mt_at_158 rfl rfl (by decide) hc) (e_m_gives (by omega) p0 v25 p3 M24 _ e) ?_
    show EV d 160 174 [some (.ref p0), some (.int p1), some (.int p2), some (.int p3), some (.ref p4), some (.ref p5), some (.ref p6), some (.int (((16 : Int32) * p1) + p2)), some (.int v2), none] [] M26 _
    obtain rfl := Option.some.inj h
    exact r_ret mx_160 li_160_174 rfl rfl
  refine h_sw h (fun hh e3 => ?_) (fun h e3 => ?_)
  · clear h
    subst e3
    have h := hh
    clear hh
    refine r_tsI (off := 149) mx_160 li_160_26 (by decide +kernel) (by decide +kernel) (by decide) rfl ?_
    refine EV_stq mx_160 (pc' := 178) (L' := [some (.ref p0), some (.int p1), some (.int p2), some (.int p3), some (.ref p4), some (.ref p5), some (.ref p6), some (.int (((16 : Int32) * p1) + p2)), some (.int v2), some (.int (0 : Int32))]) (st' := []) bo_160_175_023fd3 rfl ?_
    refine EV_forget (A := [some (.ref p0), some (.int p1), some (.int p2), some (.int p3), none, none, none, none, none, some (.int (0 : Int32))]) (lsub_of _ _ ⟨Or.inr rfl, ⟨Or.inr rfl, ⟨Or.inr rfl, ⟨Or.inr rfl, ⟨Or.inl rfl, ⟨Or.inl rfl, ⟨Or.inl rfl, ⟨Or.inl rfl, ⟨Or.inl rfl, ⟨Or.inr rfl, trivial⟩⟩⟩⟩⟩⟩⟩⟩⟩⟩) ?_
    exact e_m_processes_178 hd FU p0 p1 p2 p3 (0 : Int32) M1 r h
  refine h_sw h (fun hh e4 => ?_) (fun h e4 => ?_)
  · clear h
    subst e4
    have h := hh
    clear hh
    refine r_tsI (off := 249) mx_160 li_160_26 (by decide +kernel) (by decide +kernel) (by decide) rfl ?_
    refine EV_stq mx_160 (pc' := 281) (L' := [some (.ref p0), some (.int p1), some (.int p2), some (.int p3), some (.ref p4), some (.ref p5), some (.ref p6), some (.int (((16 : Int32) * p1) + p2)), some (.int v2), none]) (st' := [.int v2, .int (((16 : Int32) * p1) + p2), .ref p5]) bo_160_275_a7b220 rfl ?_
    refine h_eq h (fun h hc => ?_) (fun h hc => ?_)
    · refine r_ifT mx_160 li_160_281 (by decide) rfl hc ?_
      refine EV_stq mx_160 (pc' := 295) (L' := [some (.ref p0), some (.int p1), some (.int p2), some (.int p3), some (.ref p4), some (.ref p5), some (.ref p6), some (.int (((16 : Int32) * p1) + p2)), some (.int v2), none]) (st' := [.int p3, .int (((16 : Int32) * p1) + p2), .ref p5]) bo_160_294_da3898 rfl ?_
      refine EV_forget (A := [some (.ref p0), some (.int p1), some (.int p2), none, some (.ref p4), some (.ref p5), some (.ref p6), some (.int (((16 : Int32) * p1) + p2)), some (.int v2), none]) (lsub_of _ _ ⟨Or.inr rfl, ⟨Or.inr rfl, ⟨Or.inr rfl, ⟨Or.inl rfl, ⟨Or.inr rfl, ⟨Or.inr rfl, ⟨Or.inr rfl, ⟨Or.inr rfl, ⟨Or.inr rfl, ⟨Or.inl rfl, trivial⟩⟩⟩⟩⟩⟩⟩⟩⟩⟩) ?_
      exact e_m_processes_295 hd p0 p1 p2 p4 p5 p6 (((16 : Int32) * p1) + p2) v2 p3 (((16 : Int32) * p1) + p2) p5 M1 r h
    · refine r_ifF mx_160 li_160_281 (by decide) hc ?_
      refine EV_stq mx_160 (pc' := 288) (L' := [some (.ref p0), some (.int p1), some (.int p2), some (.int p3), some (.ref p4), some (.ref p5), some (.ref p6), some (.int (((16 : Int32) * p1) + p2)), some (.int v2), none]) (st' := [.int (((16 : Int32) * p1) + p2), .ref p5, .int (((16 : Int32) * p1) + p2), .ref p5]) bo_160_284_0556b4 rfl ?_
      refine r_aI mx_160 li_160_288 h (fun v27 h => ?_)
      refine EV_stq mx_160 (pc' := 295) (L' := [some (.ref p0), some (.int p1), some (.int p2), some (.int p3), some (.ref p4), some (.ref p5), some (.ref p6), some (.int (((16 : Int32) * p1) + p2)), some (.int v2), none]) (st' := [.int (v27 + p3), .int (((16 : Int32) * p1) + p2), .ref p5]) bo_160_289_861876 rfl ?_
      refine EV_forget (A := [some (.ref p0), some (.int p1), some (.int p2), none, some (.ref p4), some (.ref p5), some (.ref p6), some (.int (((16 : Int32) * p1) + p2)), some (.int v2), none]) (lsub_of _ _ ⟨Or.inr rfl, ⟨Or.inr rfl, ⟨Or.inr rfl, ⟨Or.inl rfl, ⟨Or.inr rfl, ⟨Or.inr rfl, ⟨Or.inr rfl, ⟨Or.inr rfl, ⟨Or.inr rfl, ⟨Or.inl rfl, trivial⟩⟩⟩⟩⟩⟩⟩⟩⟩⟩) ?_
      exact e_m_processes_295 hd p0 p1 p2 p4 p5 p6 (((16 : Int32) * p1) + p2) v2 (v27 + p3) (((16 : Int32) * p1) + p2) p5 M1 r h
  refine h_sw h (fun hh e5 => ?_) (fun h e5 => ?_)
  · clear h
    subst e5
    have h := hh
    clear hh
    refine r_tsI (off := 179) mx_160 li_160_26 (by decide +kernel) (by decide +kernel) (by decide) rfl ?_
    refine EV_stq mx_160 (pc' := 207) (L' := [some (.ref p0), some (.int p1), some (.int p2), some (.int p3), some (.ref p4), some (.ref p5), some (.ref p6), some (.int (((16 : Int32) * p1) + p2)), some (.int v2), none]) (st' := [.int v2]) bo_160_205_65b258 rfl ?_
    refine h_eq h (fun h hc => ?_) (fun h hc => ?_)
    · refine r_ifT mx_160 li_160_207 (by decide) rfl hc ?_
      refine EV_forget (A := [some (.ref p0), none, some (.int p2), some (.int p3), some (.ref p4), some (.ref p5), some (.ref p6), some (.int (((16 : Int32) * p1) + p2)), none, none]) (lsub_of _ _ ⟨Or.inr rfl, ⟨Or.inl rfl, ⟨Or.inr rfl, ⟨Or.inr rfl, ⟨Or.inr rfl, ⟨Or.inr rfl, ⟨Or.inr rfl, ⟨Or.inr rfl, ⟨Or.inl rfl, ⟨Or.inl rfl, trivial⟩⟩⟩⟩⟩⟩⟩⟩⟩⟩) ?_
      exact e_m_processes_219 hd p0 p2 p3 p4 p5 p6 (((16 : Int32) * p1) + p2) M1 r h
    · refine r_ifF mx_160 li_160_207 (by decide) hc ?_
      refine EV_stq mx_160 (pc' := 214) (L' := [some (.ref p0), some (.int p1), some (.int p2), some (.int p3), some (.ref p4), some (.ref p5), some (.ref p6), some (.int (((16 : Int32) * p1) + p2)), some (.int v2), none]) (st' := [.int (((16 : Int32) * p1) + p2), .ref p5]) bo_160_210_c3399c rfl ?_
      refine r_aI mx_160 li_160_214 h (fun v28 h => ?_)
      refine EV_stq mx_160 (pc' := 216) (L' := [some (.ref p0), some (.int p1), some (.int p2), some (.int p3), some (.ref p4), some (.ref p5), some (.ref p6), some (.int (((16 : Int32) * p1) + p2)), some (.int v2), none]) (st' := [.int p3, .int v28]) bo_160_215_b91724 rfl ?_
      refine h_eq h (fun h hc => ?_) (fun h hc => ?_)
      · refine r_icT mx_160 li_160_216 (by decide) rfl hc ?_
        refine EV_forget (A := [none, none, none, some (.int p3), some (.ref p4), some (.ref p5), some (.ref p6), some (.int (((16 : Int32) * p1) + p2)), none, none]) (lsub_of _ _ ⟨Or.inl rfl, ⟨Or.inl rfl, ⟨Or.inl rfl, ⟨Or.inr rfl, ⟨Or.inr rfl, ⟨Or.inr rfl, ⟨Or.inr rfl, ⟨Or.inr rfl, ⟨Or.inl rfl, ⟨Or.inl rfl, trivial⟩⟩⟩⟩⟩⟩⟩⟩⟩⟩) ?_
        exact e_m_processes_225 hd p3 p4 p5 p6 (((16 : Int32) * p1) + p2) M1 r h
      · refine r_icF mx_160 li_160_216 (by decide) hc ?_
        refine EV_forget (A := [some (.ref p0), none, some (.int p2), some (.int p3), some (.ref p4), some (.ref p5), some (.ref p6), some (.int (((16 : Int32) * p1) + p2)), none, none]) (lsub_of _ _ ⟨Or.inr rfl, ⟨Or.inl rfl, ⟨Or.inr rfl, ⟨Or.inr rfl, ⟨Or.inr rfl, ⟨Or.inr rfl, ⟨Or.inr rfl, ⟨Or.inr rfl, ⟨Or.inl rfl, ⟨Or.inl rfl, trivial⟩⟩⟩⟩⟩⟩⟩⟩⟩⟩) ?_
        exact e_m_processes_219 hd p0 p2 p3 p4 p5 p6 (((16 : Int32) * p1) + p2) M1 r h
  refine h_sw h (fun hh e6 => ?_) (fun h e6 => ?_)
  · clear h
    subst e6
    have h := hh
    clear hh
    refine r_tsI (off := 214) mx_160 li_160_26 (by decide +kernel) (by decide +kernel) (by decide) rfl ?_
    refine EV_stq mx_160 (pc' := 242) (L' := [some (.ref p0), some (.int p1), some (.int p2), some (.int p3), some (.ref p4), some (.ref p5), some (.ref p6), some (.int (((16 : Int32) * p1) + p2)), some (.int v2), none]) (st' := [.int v2]) bo_160_240_12dbda rfl ?_
    refine h_eq h (fun h hc => ?_) (fun h hc => ?_)
    · refine r_ifT mx_160 li_160_242 (by decide) rfl hc ?_
      refine EV_forget (A := [some (.ref p0), none, some (.int p2), some (.int p3), some (.ref p4), some (.ref p5), some (.ref p6), some (.int (((16 : Int32) * p1) + p2)), none, none]) (lsub_of _ _ ⟨Or.inr rfl, ⟨Or.inl rfl, ⟨Or.inr rfl, ⟨Or.inr rfl, ⟨Or.inr rfl, ⟨Or.inr rfl, ⟨Or.inr rfl, ⟨Or.inr rfl, ⟨Or.inl rfl, ⟨Or.inl rfl, trivial⟩⟩⟩⟩⟩⟩⟩⟩⟩⟩) ?_
      exact e_m_processes_254 hd p0 p2 p3 p4 p5 p6 (((16 : Int32) * p1) + p2) M1 r h
    · refine r_ifF mx_160 li_160_242 (by decide) hc ?_
      refine EV_stq mx_160 (pc' := 250) (L' := [some (.ref p0), some (.int p1), some (.int p2), some (.int p3), some (.ref p4), some (.ref p5), some (.ref p6), some (.int (((16 : Int32) * p1) + p2)), some (.int v2), none]) (st' := [.int (((16 : Int32) * p1) + p2), .ref p5, .int p3]) bo_160_245_525fa8 rfl ?_
      refine r_aI mx_160 li_160_250 h (fun v29 h => ?_)
      refine h_le h (fun h hc => ?_) (fun h hc => ?_)
      · refine r_icT mx_160 li_160_251 (by decide) rfl hc ?_
        refine EV_forget (A := [none, none, none, none, some (.ref p4), none, some (.ref p6), some (.int (((16 : Int32) * p1) + p2)), none, none]) (lsub_of _ _ ⟨Or.inl rfl, ⟨Or.inl rfl, ⟨Or.inl rfl, ⟨Or.inl rfl, ⟨Or.inr rfl, ⟨Or.inl rfl, ⟨Or.inr rfl, ⟨Or.inr rfl, ⟨Or.inl rfl, ⟨Or.inl rfl, trivial⟩⟩⟩⟩⟩⟩⟩⟩⟩⟩) ?_
        exact e_m_processes_266 hd p4 p6 (((16 : Int32) * p1) + p2) M1 r h
      · refine r_icF mx_160 li_160_251 (by decide) hc ?_
        refine EV_forget (A := [some (.ref p0), none, some (.int p2), some (.int p3), some (.ref p4), some (.ref p5), some (.ref p6), some (.int (((16 : Int32) * p1) + p2)), none, none]) (lsub_of _ _ ⟨Or.inr rfl, ⟨Or.inl rfl, ⟨Or.inr rfl, ⟨Or.inr rfl, ⟨Or.inr rfl, ⟨Or.inr rfl, ⟨Or.inr rfl, ⟨Or.inr rfl, ⟨Or.inl rfl, ⟨Or.inl rfl, trivial⟩⟩⟩⟩⟩⟩⟩⟩⟩⟩) ?_
        exact e_m_processes_254 hd p0 p2 p3 p4 p5 p6 (((16 : Int32) * p1) + p2) M1 r h
  refine r_tsD mx_160 li_160_26 (by have n0 := lv_neT e0 (a := 0) (by decide); have n1 := lv_neT e1 (a := 1) (by decide); have n2 := lv_neT e2 (a := 2) (by decide); have n3 := lv_neT e3 (a := 3) (by decide); have n4 := lv_neT e4 (a := 4) (by decide); have n5 := lv_neT e5 (a := 5) (by decide); have n6 := lv_neT e6 (a := 6) (by decide); omega) (by decide) rfl ?_
  refine EV_stq mx_160 (pc' := 281) (L' := [some (.ref p0), some (.int p1), some (.int p2), some (.int p3), some (.ref p4), some (.ref p5), some (.ref p6), some (.int (((16 : Int32) * p1) + p2)), some (.int v2), none]) (st' := [.int v2, .int (((16 : Int32) * p1) + p2), .ref p5]) bo_160_275_a7b220 rfl ?_
  refine h_eq h (fun h hc => ?_) (fun h hc => ?_)
  · refine r_ifT mx_160 li_160_281 (by decide) rfl hc ?_
    refine EV_stq mx_160 (pc' := 295) (L' := [some (.ref p0), some (.int p1), some (.int p2), some (.int p3), some (.ref p4), some (.ref p5), some (.ref p6), some (.int (((16 : Int32) * p1) + p2)), some (.int v2), none]) (st' := [.int p3, .int (((16 : Int32) * p1) + p2), .ref p5]) bo_160_294_da3898 rfl ?_
    refine EV_forget (A := [some (.ref p0), some (.int p1), some (.int p2), none, some (.ref p4), some (.ref p5), some (.ref p6), some (.int (((16 : Int32) * p1) + p2)), some (.int v2), none]) (lsub_of _ _ ⟨Or.inr rfl, ⟨Or.inr rfl, ⟨Or.inr rfl, ⟨Or.inl rfl, ⟨Or.inr rfl, ⟨Or.inr rfl, ⟨Or.inr rfl, ⟨Or.inr rfl, ⟨Or.inr rfl, ⟨Or.inl rfl, trivial⟩⟩⟩⟩⟩⟩⟩⟩⟩⟩) ?_
    exact e_m_processes_295 hd p0 p1 p2 p4 p5 p6 (((16 : Int32) * p1) + p2) v2 p3 (((16 : Int32) * p1) + p2) p5 M1 r h
  · refine r_ifF mx_160 li_160_281 (by decide) hc ?_
    refine EV_stq mx_160 (pc' := 288) (L' := [some (.ref p0), some (.int p1), some (.int p2), some (.int p3), some (.ref p4), some (.ref p5), some (.ref p6), some (.int (((16 : Int32) * p1) + p2)), some (.int v2), none]) (st' := [.int (((16 : Int32) * p1) + p2), .ref p5, .int (((16 : Int32) * p1) + p2), .ref p5]) bo_160_284_0556b4 rfl ?_
    refine r_aI mx_160 li_160_288 h (fun v30 h => ?_)
    refine EV_stq mx_160 (pc' := 295) (L' := [some (.ref p0), some (.int p1), some (.int p2), some (.int p3), some (.ref p4), some (.ref p5), some (.ref p6), some (.int (((16 : Int32) * p1) + p2)), some (.int v2), none]) (st' := [.int (v30 + p3), .int (((16 : Int32) * p1) + p2), .ref p5]) bo_160_289_861876 rfl ?_
    refine EV_forget (A := [some (.ref p0), some (.int p1), some (.int p2), none, some (.ref p4), some (.ref p5), some (.ref p6), some (.int (((16 : Int32) * p1) + p2)), some (.int v2), none]) (lsub_of _ _ ⟨Or.inr rfl, ⟨Or.inr rfl, ⟨Or.inr rfl, ⟨Or.inl rfl, ⟨Or.inr rfl, ⟨Or.inr rfl, ⟨Or.inr rfl, ⟨Or.inr rfl, ⟨Or.inr rfl, ⟨Or.inl rfl, trivial⟩⟩⟩⟩⟩⟩⟩⟩⟩⟩) ?_
    exact e_m_processes_295 hd p0 p1 p2 p4 p5 p6 (((16 : Int32) * p1) + p2) v2 (v30 + p3) (((16 : Int32) * p1) + p2) p5 M1 r h
theorem e_m_takesIn_33 {d : Nat} (hd : 2 ≤ d) : ∀ (n : Nat) (l0 : Nat) (l1 : Int32) (l2 : Int32) (l5 : Int32) (l6 : Int32) (M : Mem) (r : Mem), f_m_takesIn_33 n l0 l1 l2 l5 l6 M = some r → EV d 161 33 [some (.ref l0), some (.int l1), some (.int l2), none, none, some (.int l5), some (.int l6)] [] M (none, r) := by
  intro n
  induction n with
  | zero => intro l0 l1 l2 l5 l6 M r h; cases h
  | succ n ih =>
    intro l0 l1 l2 l5 l6 M r h
    unfold f_m_takesIn_33 at h
    refine EV_stq mx_161 (pc' := 36) (L' := [some (.ref l0), some (.int l1), some (.int l2), none, none, some (.int l5), some (.int l6)]) (st' := [.ref l0, .int l6]) bo_161_33_365621 rfl ?_
    refine r_gI mx_161 li_161_36 fd_14_291 ⟨by decide, by decide⟩ h (fun v1 h => ?_)
    refine h_ge h (fun h hc => ?_) (fun h hc => ?_)
    · refine r_icT mx_161 li_161_39 (by decide) rfl hc ?_
      refine EV_stq mx_161 (pc' := 72) (L' := [some (.ref l0), some (.int l1), some (.int l2), none, none, some (.int l5), some (.int l6)]) (st' := [.ref l0, .int l1]) bo_161_70_c6678a rfl ?_
      refine h_ck h (fun hc h => ?_)
      refine h_cI h (fun v3 M2 e h => ?_)
      refine EV_call [.ref l0] [.int l1] mx_161 li_161_72 rfl rfl si_14_199 rfl (by decide) (by decide) (by omega) ma_140 rfl (Nat.le_of_ble_eq_true rfl) rfl rfl (Nat.le_of_ble_eq_true rfl) (rc_1 mt_at_140 rfl rfl (by decide) hc) (e_m_sink (by omega) l0 M _ e) ?_
      show EV d 161 75 [some (.ref l0), some (.int l1), some (.int l2), none, none, some (.int l5), some (.int l6)] [.int v3, .int l1] M2 _
      refine h_ge h (fun h hc => ?_) (fun h hc => ?_)
      · refine r_icT mx_161 li_161_75 (by decide) rfl hc ?_
        refine EV_stq mx_161 (pc' := 80) (L' := [some (.ref l0), some (.int l1), some (.int l2), none, none, some (.int l5), some (.int l6)]) (st' := [.ref l0]) bo_161_79_febf86 rfl ?_
        refine r_gA mx_161 li_161_80 fd_14_148 rfl h (fun a4 h => ?_)
        refine EV_stq mx_161 (pc' := 84) (L' := [some (.ref l0), some (.int l1), some (.int l2), none, none, some (.int l5), some (.int l6)]) (st' := [.ref l0, .ref a4]) bo_161_83_dbc641 rfl ?_
        refine r_gI mx_161 li_161_84 fd_14_243 ⟨by decide, by decide⟩ h (fun v5 h => ?_)
        refine EV_stq mx_161 (pc' := 93) (L' := [some (.ref l0), some (.int l1), some (.int l2), none, none, some (.int l5), some (.int l6)]) (st' := [.int ((v5 - (1 : Int32)) - l5), .ref a4, .int ((v5 - (1 : Int32)) - l5), .ref a4]) bo_161_87_049c89 rfl ?_
        refine r_aI mx_161 li_161_93 h (fun v6 h => ?_)
        refine EV_stq mx_161 (pc' := 96) (L' := [some (.ref l0), some (.int l1), some (.int l2), none, none, some (.int l5), some (.int l6)]) (st' := [.int (v6 + (1 : Int32)), .int ((v5 - (1 : Int32)) - l5), .ref a4]) bo_161_94_77bae3 rfl ?_
        refine r_sI mx_161 li_161_96 h (fun M7 h => ?_)
        refine EV_stq mx_161 (pc' := 99) (L' := [some (.ref l0), some (.int l1), some (.int l2), none, none, some (.int l5), some (.int l6)]) (st' := [.ref l0, .ref l0]) bo_161_97_64a721 rfl ?_
        refine r_gI mx_161 li_161_99 fd_14_246 ⟨by decide, by decide⟩ h (fun v8 h => ?_)
        refine EV_stq mx_161 (pc' := 104) (L' := [some (.ref l0), some (.int l1), some (.int l2), none, none, some (.int l5), some (.int l6)]) (st' := [.int (v8 + (1 : Int32)), .ref l0]) bo_161_102_036f47 rfl ?_
        refine r_pI mx_161 li_161_104 fd_14_246 (Or.inl rfl) rfl h (fun M9 h => ?_)
        refine EV_stq mx_161 (pc' := 109) (L' := [some (.ref l0), some (.int l1), some (.int l2), none, none, some (.int l5), some (.int l6)]) (st' := [.ref l0, .ref l0]) bo_161_107_68dab3 rfl ?_
        refine r_gJ mx_161 li_161_109 fd_14_249 rfl h (fun v10 h => ?_)
        refine EV_stq mx_161 (pc' := 113) (L' := [some (.ref l0), some (.int l1), some (.int l2), none, none, some (.int l5), some (.int l6)]) (st' := [.ref l0, .long v10, .ref l0]) bo_161_112_a01649 rfl ?_
        refine r_gI mx_161 li_161_113 fd_14_243 ⟨by decide, by decide⟩ h (fun v11 h => ?_)
        refine EV_stq mx_161 (pc' := 123) (L' := [some (.ref l0), some (.int l1), some (.int l2), none, none, some (.int l5), some (.int l6)]) (st' := [.long (v10 + ((v11 - (1 : Int32)) - l5).toInt64), .ref l0]) bo_161_116_3fb2d9 rfl ?_
        refine r_pJ mx_161 li_161_123 fd_14_249 (Or.inl rfl) rfl h (fun M12 h => ?_)
        obtain rfl := Option.some.inj h
        exact r_ret mx_161 li_161_126 rfl rfl
      · refine r_icF mx_161 li_161_75 (by decide) hc ?_
        obtain rfl := Option.some.inj h
        exact r_ret mx_161 li_161_78 rfl rfl
    · refine r_icF mx_161 li_161_39 (by decide) hc ?_
      refine EV_stq mx_161 (pc' := 46) (L' := [some (.ref l0), some (.int l1), some (.int l2), none, none, some (.int l5), some (.int l6)]) (st' := [.ref l0, .int l2, .int l1, .ref l0]) bo_161_42_cbdb6b rfl ?_
      refine r_gA mx_161 li_161_46 fd_14_163 rfl h (fun a13 h => ?_)
      refine EV_stq mx_161 (pc' := 51) (L' := [some (.ref l0), some (.int l1), some (.int l2), none, none, some (.int l5), some (.int l6)]) (st' := [.int l6, .ref a13, .int l2, .int l1, .ref l0]) bo_161_49_e052b7 rfl ?_
      refine r_aI mx_161 li_161_51 h (fun v14 h => ?_)
      refine EV_stq mx_161 (pc' := 53) (L' := [some (.ref l0), some (.int l1), some (.int l2), none, none, some (.int l5), some (.int l6)]) (st' := [.ref l0, .int v14, .int l2, .int l1, .ref l0]) bo_161_52_118d3f rfl ?_
      refine r_gA mx_161 li_161_53 fd_14_166 rfl h (fun a15 h => ?_)
      refine EV_stq mx_161 (pc' := 58) (L' := [some (.ref l0), some (.int l1), some (.int l2), none, none, some (.int l5), some (.int l6)]) (st' := [.int l6, .ref a15, .int v14, .int l2, .int l1, .ref l0]) bo_161_56_350148 rfl ?_
      refine r_aI mx_161 li_161_58 h (fun v16 h => ?_)
      refine EV_stq mx_161 (pc' := 61) (L' := [some (.ref l0), some (.int l1), some (.int l2), none, none, some (.int l5), some (.int l6)]) (st' := [.int l5, .int v16, .int v14, .int l2, .int l1, .ref l0]) bo_161_59_8c3b95 rfl ?_
      refine h_ck h (fun hc h => ?_)
      refine h_cV h (fun M17 e h => ?_)
      refine EV_call [.ref l0, .int l1, .int l2, .int v14, .int v16, .int l5] [] mx_161 li_161_61 rfl rfl si_14_305 rfl (by decide) (by decide) (by omega) ma_152 rfl (Nat.le_of_ble_eq_true rfl) rfl rfl (Nat.le_of_ble_eq_true rfl) (rc_1 mt_at_152 rfl rfl (by decide) hc) (e_m_emits (by omega) l0 l1 l2 v14 v16 l5 M _ e) ?_
      show EV d 161 64 [some (.ref l0), some (.int l1), some (.int l2), none, none, some (.int l5), some (.int l6)] [] M17 _
      refine EV_stq mx_161 (pc' := 33) (L' := [some (.ref l0), some (.int l1), some (.int l2), none, none, some (.int l5), some (.int (l6 + (1 : Int32)))]) (st' := []) bo_161_64_f60358 rfl ?_
      exact ih l0 l1 l2 l5 (l6 + (1 : Int32)) M17 r h
theorem e_m_takesIn {d : Nat} (hd : 2 ≤ d) (p0 : Nat) (p1 : Int32) (p2 : Int32) (p3 : Int32) (p4 : Int32) (p5 : Int32) (M : Mem) (r : Mem) (h : f_m_takesIn p0 p1 p2 p3 p4 p5 M = some r) : EV d 161 0 (entL 7 [.ref p0, .int p1, .int p2, .int p3, .int p4, .int p5]) [] M (none, r) := by
  show EV d 161 0 [some (.ref p0), some (.int p1), some (.int p2), some (.int p3), some (.int p4), some (.int p5), none] [] M _
  unfold f_m_takesIn at h
  refine EV_stq mx_161 (pc' := 1) (L' := [some (.ref p0), some (.int p1), some (.int p2), some (.int p3), some (.int p4), some (.int p5), none]) (st' := [.ref p0]) bo_161_0_8d5162 rfl ?_
  refine r_gA mx_161 li_161_1 fd_14_44 rfl h (fun a1 h => ?_)
  refine EV_stq mx_161 (pc' := 6) (L' := [some (.ref p0), some (.int p1), some (.int p2), some (.int p3), some (.int p4), some (.int p5), none]) (st' := [.int p1, .ref a1, .int p1, .ref a1]) bo_161_4_40e659 rfl ?_
  refine r_aI mx_161 li_161_6 h (fun v2 h => ?_)
  refine EV_stq mx_161 (pc' := 9) (L' := [some (.ref p0), some (.int p1), some (.int p2), some (.int p3), some (.int p4), some (.int p5), none]) (st' := [.int (v2 + (1 : Int32)), .int p1, .ref a1]) bo_161_7_7eef78 rfl ?_
  refine r_sI mx_161 li_161_9 h (fun M3 h => ?_)
  refine EV_stq mx_161 (pc' := 16) (L' := [some (.ref p0), some (.int p1), some (.int p2), some (.int p3), some (.int p4), some (.int p5), none]) (st' := [.ref p0, .int p4, .int p3, .int p1, .ref p0]) bo_161_10_c33b91 rfl ?_
  refine r_gA mx_161 li_161_16 fd_14_56 rfl h (fun a4 h => ?_)
  refine EV_stq mx_161 (pc' := 20) (L' := [some (.ref p0), some (.int p1), some (.int p2), some (.int p3), some (.int p4), some (.int p5), none]) (st' := [.ref p0, .ref a4, .int p4, .int p3, .int p1, .ref p0]) bo_161_19_1a8444 rfl ?_
  refine r_gA mx_161 li_161_20 fd_14_66 rfl h (fun a5 h => ?_)
  refine EV_stq mx_161 (pc' := 24) (L' := [some (.ref p0), some (.int p1), some (.int p2), some (.int p3), some (.int p4), some (.int p5), none]) (st' := [.ref p0, .ref a5, .ref a4, .int p4, .int p3, .int p1, .ref p0]) bo_161_23_b37e12 rfl ?_
  refine r_gA mx_161 li_161_24 fd_14_75 rfl h (fun a6 h => ?_)
  refine h_ck h (fun hc h => ?_)
  refine h_cV h (fun M7 e h => ?_)
  refine EV_call [.ref p0, .int p1, .int p3, .int p4, .ref a4, .ref a5, .ref a6] [] mx_161 li_161_27 rfl rfl si_14_301 rfl (by decide) (by decide) (by omega) ma_160 rfl (Nat.le_of_ble_eq_true rfl) rfl rfl (Nat.le_of_ble_eq_true rfl) (rc_1 mt_at_160 rfl rfl (by decide) hc) (e_m_processes (by omega) p0 p1 p3 p4 a4 a5 a6 M3 _ e) ?_
  show EV d 161 30 [some (.ref p0), some (.int p1), some (.int p2), some (.int p3), some (.int p4), some (.int p5), none] [] M7 _
  refine EV_stq mx_161 (pc' := 33) (L' := [some (.ref p0), some (.int p1), some (.int p2), some (.int p3), some (.int p4), some (.int p5), some (.int (0 : Int32))]) (st' := []) bo_161_30_e4fc54 rfl ?_
  refine EV_forget (A := [some (.ref p0), some (.int p1), some (.int p2), none, none, some (.int p5), some (.int (0 : Int32))]) (lsub_of _ _ ⟨Or.inr rfl, ⟨Or.inr rfl, ⟨Or.inr rfl, ⟨Or.inl rfl, ⟨Or.inl rfl, ⟨Or.inr rfl, ⟨Or.inr rfl, trivial⟩⟩⟩⟩⟩⟩⟩) ?_
  exact e_m_takesIn_33 hd FU p0 p1 p2 p5 (0 : Int32) M7 r h
theorem e_m_takes_237 {d : Nat} (hd : 3 ≤ d) (l0 : Nat) (l1 : Int32) (l2 : Int32) (l5 : Int32) (l6 : Int32) (l7 : Int32) (M : Mem) (r : Int32 × Mem) (h : f_m_takes_237 l0 l1 l2 l5 l6 l7 M = some r) : EV d 162 237 [some (.ref l0), some (.int l1), some (.int l2), none, none, some (.int l5), some (.int l6), some (.int l7)] [] M (some (.int r.1), r.2) := by
  unfold f_m_takes_237 at h
  refine EV_stq mx_162 (pc' := 246) (L' := [some (.ref l0), some (.int l1), some (.int l2), none, none, some (.int l5), some (.int l6), some (.int l7)]) (st' := [.int l7, .int l6, .int l5, .int l2, .int l1, .ref l0]) bo_162_237_a4c5c4 rfl ?_
  refine h_ck h (fun hc h => ?_)
  refine h_cV h (fun M1 e h => ?_)
  refine EV_call [.ref l0, .int l1, .int l2, .int l5, .int l6, .int l7] [] mx_162 li_162_246 rfl rfl si_14_338 rfl (by decide) (by decide) (by omega) ma_161 rfl (Nat.le_of_ble_eq_true rfl) rfl rfl (Nat.le_of_ble_eq_true rfl) (rc_1 mt_at_161 rfl rfl (by decide) hc) (e_m_takesIn (by omega) l0 l1 l2 l5 l6 l7 M _ e) ?_
  show EV d 162 249 [some (.ref l0), some (.int l1), some (.int l2), none, none, some (.int l5), some (.int l6), some (.int l7)] [] M1 _
  refine EV_stq mx_162 (pc' := 250) (L' := [some (.ref l0), some (.int l1), some (.int l2), none, none, some (.int l5), some (.int l6), some (.int l7)]) (st' := [.int (1 : Int32)]) bo_162_249_aeae84 rfl ?_
  obtain rfl := Option.some.inj h
  exact r_ret mx_162 li_162_250 rfl (ro_nar (t := .boolean) (by decide) rfl)
theorem e_m_takes {d : Nat} (hd : 3 ≤ d) (p0 : Nat) (p1 : Int32) (p2 : Int32) (M : Mem) (r : Int32 × Mem) (h : f_m_takes p0 p1 p2 M = some r) : EV d 162 0 (entL 8 [.ref p0, .int p1, .int p2]) [] M (some (.int r.1), r.2) := by
  show EV d 162 0 [some (.ref p0), some (.int p1), some (.int p2), none, none, none, none, none] [] M _
  unfold f_m_takes at h
  refine EV_stq mx_162 (pc' := 1) (L' := [some (.ref p0), some (.int p1), some (.int p2), none, none, none, none, none]) (st' := [.int p1]) bo_162_0_8d5162 rfl ?_
  refine h_ne h (fun h hc => ?_) (fun h hc => ?_)
  · refine r_ifF mx_162 li_162_1 (by decide) hc ?_
    refine EV_stq mx_162 (pc' := 5) (L' := [some (.ref p0), some (.int p1), some (.int p2), none, none, none, none, none]) (st' := [.ref p0]) bo_162_4_e962e2 rfl ?_
    refine r_gI mx_162 li_162_5 fd_14_271 ⟨by decide, by decide⟩ h (fun v36 h => ?_)
    refine EV_stq mx_162 (pc' := 9) (L' := [some (.ref p0), some (.int p1), some (.int p2), none, none, none, none, none]) (st' := [.ref p0, .int v36]) bo_162_8_383530 rfl ?_
    refine r_gI mx_162 li_162_9 fd_14_275 ⟨by decide, by decide⟩ h (fun v37 h => ?_)
    refine h_ne h (fun h hc => ?_) (fun h hc => ?_)
    · refine r_icF mx_162 li_162_12 (by decide) hc ?_
      refine EV_stq mx_162 (pc' := 16) (L' := [some (.ref p0), some (.int p1), some (.int p2), none, none, none, none, none]) (st' := [.int (0 : Int32)]) bo_162_15_be4250 rfl ?_
      obtain rfl := Option.some.inj h
      exact r_ret mx_162 li_162_16 rfl (ro_nar (t := .boolean) (by decide) rfl)
    · refine r_icT mx_162 li_162_12 (by decide) rfl hc ?_
      refine EV_stq mx_162 (pc' := 18) (L' := [some (.ref p0), some (.int p1), some (.int p2), none, none, none, none, none]) (st' := [.ref p0]) bo_162_17_509256 rfl ?_
      refine r_gA mx_162 li_162_18 fd_14_44 rfl h (fun a38 h => ?_)
      refine EV_stq mx_162 (pc' := 23) (L' := [some (.ref p0), some (.int p1), some (.int p2), none, none, none, none, none]) (st' := [.int (0 : Int32), .ref a38, .int (0 : Int32), .ref a38]) bo_162_21_13696e rfl ?_
      refine r_aI mx_162 li_162_23 h (fun v39 h => ?_)
      refine EV_stq mx_162 (pc' := 26) (L' := [some (.ref p0), some (.int p1), some (.int p2), none, none, none, none, none]) (st' := [.int (v39 + (1 : Int32)), .int (0 : Int32), .ref a38]) bo_162_24_35ae4e rfl ?_
      refine r_sI mx_162 li_162_26 h (fun M40 h => ?_)
      refine EV_stq mx_162 (pc' := 31) (L' := [some (.ref p0), some (.int p1), some (.int p2), none, none, none, none, none]) (st' := [.ref p0, .int (0 : Int32), .int (0 : Int32), .ref p0]) bo_162_27_79b240 rfl ?_
      refine r_gA mx_162 li_162_31 fd_14_38 rfl h (fun a41 h => ?_)
      refine EV_stq mx_162 (pc' := 35) (L' := [some (.ref p0), some (.int p1), some (.int p2), none, none, none, none, none]) (st' := [.ref p0, .ref a41, .int (0 : Int32), .int (0 : Int32), .ref p0]) bo_162_34_130638 rfl ?_
      refine r_gI mx_162 li_162_35 fd_14_271 ⟨by decide, by decide⟩ h (fun v42 h => ?_)
      refine r_aI mx_162 li_162_38 h (fun v43 h => ?_)
      refine EV_stq mx_162 (pc' := 40) (L' := [some (.ref p0), some (.int p1), some (.int p2), none, none, none, none, none]) (st' := [.ref p0, .int v43, .int (0 : Int32), .int (0 : Int32), .ref p0]) bo_162_39_4dcc25 rfl ?_
      refine r_gA mx_162 li_162_40 fd_14_41 rfl h (fun a44 h => ?_)
      refine EV_stq mx_162 (pc' := 44) (L' := [some (.ref p0), some (.int p1), some (.int p2), none, none, none, none, none]) (st' := [.ref p0, .ref a44, .int v43, .int (0 : Int32), .int (0 : Int32), .ref p0]) bo_162_43_d85b47 rfl ?_
      refine r_gI mx_162 li_162_44 fd_14_271 ⟨by decide, by decide⟩ h (fun v45 h => ?_)
      refine r_aI mx_162 li_162_47 h (fun v46 h => ?_)
      refine EV_stq mx_162 (pc' := 49) (L' := [some (.ref p0), some (.int p1), some (.int p2), none, none, none, none, none]) (st' := [.ref p0, .int v46, .int v43, .int (0 : Int32), .int (0 : Int32), .ref p0]) bo_162_48_04c55a rfl ?_
      refine r_gI mx_162 li_162_49 fd_14_243 ⟨by decide, by decide⟩ h (fun v47 h => ?_)
      refine EV_stq mx_162 (pc' := 54) (L' := [some (.ref p0), some (.int p1), some (.int p2), none, none, none, none, none]) (st' := [.int (v47 - (1 : Int32)), .int v46, .int v43, .int (0 : Int32), .int (0 : Int32), .ref p0]) bo_162_52_9f6391 rfl ?_
      refine h_ck h (fun hc h => ?_)
      refine h_cV h (fun M48 e h => ?_)
      refine EV_call [.ref p0, .int (0 : Int32), .int (0 : Int32), .int v43, .int v46, .int (v47 - (1 : Int32))] [] mx_162 li_162_54 rfl rfl si_14_305 rfl (by decide) (by decide) (by omega) ma_152 rfl (Nat.le_of_ble_eq_true rfl) rfl rfl (Nat.le_of_ble_eq_true rfl) (rc_1 mt_at_152 rfl rfl (by decide) hc) (e_m_emits (by omega) p0 (0 : Int32) (0 : Int32) v43 v46 (v47 - (1 : Int32)) M40 _ e) ?_
      show EV d 162 57 [some (.ref p0), some (.int p1), some (.int p2), none, none, none, none, none] [] M48 _
      refine EV_stq mx_162 (pc' := 59) (L' := [some (.ref p0), some (.int p1), some (.int p2), none, none, none, none, none]) (st' := [.ref p0, .ref p0]) bo_162_57_1292c4 rfl ?_
      refine r_gI mx_162 li_162_59 fd_14_271 ⟨by decide, by decide⟩ h (fun v49 h => ?_)
      refine EV_stq mx_162 (pc' := 64) (L' := [some (.ref p0), some (.int p1), some (.int p2), none, none, none, none, none]) (st' := [.int (v49 + (1 : Int32)), .ref p0]) bo_162_62_322124 rfl ?_
      refine r_pI mx_162 li_162_64 fd_14_271 (Or.inl rfl) rfl h (fun M50 h => ?_)
      refine EV_stq mx_162 (pc' := 68) (L' := [some (.ref p0), some (.int p1), some (.int p2), none, none, none, none, none]) (st' := [.int (1 : Int32)]) bo_162_67_ded3a4 rfl ?_
      obtain rfl := Option.some.inj h
      exact r_ret mx_162 li_162_68 rfl (ro_nar (t := .boolean) (by decide) rfl)
  · refine r_ifT mx_162 li_162_1 (by decide) rfl hc ?_
    refine EV_stq mx_162 (pc' := 72) (L' := [some (.ref p0), some (.int p1), some (.int p2), none, none, none, none, none]) (st' := [.int p2, .int p1, .ref p0]) bo_162_69_af1a83 rfl ?_
    refine h_ck h (fun hc h => ?_)
    refine h_cI h (fun v2 M1 e h => ?_)
    refine EV_call [.ref p0, .int p1, .int p2] [] mx_162 li_162_72 rfl rfl si_14_328 rfl (by decide) (by decide) (by omega) ma_153 rfl (Nat.le_of_ble_eq_true rfl) rfl rfl (Nat.le_of_ble_eq_true rfl) (rc_1 mt_at_153 rfl rfl (by decide) hc) (e_m_ready (by omega) p0 p1 p2 M _ e) ?_
    show EV d 162 75 [some (.ref p0), some (.int p1), some (.int p2), none, none, none, none, none] [.int v2] M1 _
    refine EV_stq mx_162 (pc' := 77) (L' := [some (.ref p0), some (.int p1), some (.int p2), some (.int v2), none, none, none, none]) (st' := [.int v2]) bo_162_75_c3e58c rfl ?_
    refine h_ge h (fun h hc => ?_) (fun h hc => ?_)
    · refine r_ifT mx_162 li_162_77 (by decide) rfl hc ?_
      refine EV_stq mx_162 (pc' := 83) (L' := [some (.ref p0), some (.int p1), some (.int p2), some (.int v2), none, none, none, none]) (st' := [.ref p0]) bo_162_82_d3719d rfl ?_
      refine r_gA mx_162 li_162_83 fd_14_108 rfl h (fun a3 h => ?_)
      refine EV_stq mx_162 (pc' := 88) (L' := [some (.ref p0), some (.int p1), some (.int p2), some (.int v2), none, none, none, none]) (st' := [.int p2, .int p1, .ref a3]) bo_162_86_c832c7 rfl ?_
      refine h_cI h (fun v5 M4 e h => ?_)
      refine EV_call [.int p1, .int p2] [.ref a3] mx_162 li_162_88 rfl rfl si_14_288 rfl (by decide) (by decide) (by omega) ma_141 rfl (Nat.le_of_ble_eq_true rfl) rfl rfl (Nat.le_of_ble_eq_true rfl) rfl (e_m_spot (by omega) p1 p2 M1 _ e) ?_
      show EV d 162 91 [some (.ref p0), some (.int p1), some (.int p2), some (.int v2), none, none, none, none] [.int v5, .ref a3] M4 _
      refine EV_stq mx_162 (pc' := 95) (L' := [some (.ref p0), some (.int p1), some (.int p2), some (.int v2), none, none, none, none]) (st' := [.ref p0, .int (v2 + (1 : Int32)), .int v5, .ref a3]) bo_162_91_e01035 rfl ?_
      refine r_gA mx_162 li_162_95 fd_14_22 rfl h (fun a6 h => ?_)
      refine EV_stq mx_162 (pc' := 101) (L' := [some (.ref p0), some (.int p1), some (.int p2), some (.int v2), none, none, none, none]) (st' := [.int (p1 - (1 : Int32)), .ref a6, .int (v2 + (1 : Int32)), .int v5, .ref a3]) bo_162_98_15ca2f rfl ?_
      refine r_aI mx_162 li_162_101 h (fun v7 h => ?_)
      refine r_rm mx_162 li_162_102 h (fun v8 h => ?_)
      refine r_sI mx_162 li_162_103 h (fun M9 h => ?_)
      refine EV_stq mx_162 (pc' := 109) (L' := [some (.ref p0), some (.int p1), some (.int p2), some (.int v2), none, none, none, none]) (st' := [.int p2, .int v2, .int (p1 - (1 : Int32))]) bo_162_104_d8b30f rfl ?_
      refine h_cI h (fun v11 M10 e h => ?_)
      refine EV_call [.int (p1 - (1 : Int32)), .int v2, .int p2] [] mx_162 li_162_109 rfl rfl si_14_324 rfl (by decide) (by decide) (by omega) ma_145 rfl (Nat.le_of_ble_eq_true rfl) rfl rfl (Nat.le_of_ble_eq_true rfl) rfl (e_m_line (by omega) (p1 - (1 : Int32)) v2 p2 M9 _ e) ?_
      show EV d 162 112 [some (.ref p0), some (.int p1), some (.int p2), some (.int v2), none, none, none, none] [.int v11] M10 _
      refine EV_stq mx_162 (pc' := 115) (L' := [some (.ref p0), some (.int p1), some (.int p2), some (.int v2), some (.int v11), none, none, none]) (st' := [.ref p0]) bo_162_112_a136ae rfl ?_
      refine r_gA mx_162 li_162_115 fd_14_135 rfl h (fun a12 h => ?_)
      refine EV_stq mx_162 (pc' := 122) (L' := [some (.ref p0), some (.int p1), some (.int p2), some (.int v2), some (.int v11), none, none, none]) (st' := [.int ((4 : Int32) * v11), .ref a12]) bo_162_118_7958c0 rfl ?_
      refine r_aI mx_162 li_162_122 h (fun v13 h => ?_)
      refine h_ge h (fun h hc => ?_) (fun h hc => ?_)
      · refine r_ifT mx_162 li_162_123 (by decide) rfl hc ?_
        refine EV_stq mx_162 (pc' := 142) (L' := [some (.ref p0), some (.int p1), some (.int p2), some (.int v2), some (.int v11), none, none, none]) (st' := [.ref p0]) bo_162_141_b0c808 rfl ?_
        refine r_gA mx_162 li_162_142 fd_14_138 rfl h (fun a14 h => ?_)
        refine EV_stq mx_162 (pc' := 151) (L' := [some (.ref p0), some (.int p1), some (.int p2), some (.int v2), some (.int v11), none, none, none]) (st' := [.ref p0, .int ((16 : Int32) * v11), .ref a14]) bo_162_145_fe367e rfl ?_
        refine r_gA mx_162 li_162_151 fd_14_132 rfl h (fun a15 h => ?_)
        refine EV_stq mx_162 (pc' := 156) (L' := [some (.ref p0), some (.int p1), some (.int p2), some (.int v2), some (.int v11), none, none, none]) (st' := [.int v11, .ref a15, .int ((16 : Int32) * v11), .ref a14]) bo_162_154_d0883f rfl ?_
        refine r_aI mx_162 li_162_156 h (fun v16 h => ?_)
        refine EV_stq mx_162 (pc' := 158) (L' := [some (.ref p0), some (.int p1), some (.int p2), some (.int v2), some (.int v11), none, none, none]) (st' := [.int (((16 : Int32) * v11) + v16), .ref a14]) bo_162_157_f223cb rfl ?_
        refine r_aI mx_162 li_162_158 h (fun v17 h => ?_)
        refine EV_stq mx_162 (pc' := 162) (L' := [some (.ref p0), some (.int p1), some (.int p2), some (.int v2), some (.int v11), some (.int v17), none, none]) (st' := [.ref p0]) bo_162_159_80ff86 rfl ?_
        refine r_gA mx_162 li_162_162 fd_14_141 rfl h (fun a18 h => ?_)
        refine EV_stq mx_162 (pc' := 171) (L' := [some (.ref p0), some (.int p1), some (.int p2), some (.int v2), some (.int v11), some (.int v17), none, none]) (st' := [.ref p0, .int ((16 : Int32) * v11), .ref a18]) bo_162_165_4579e0 rfl ?_
        refine r_gA mx_162 li_162_171 fd_14_132 rfl h (fun a19 h => ?_)
        refine EV_stq mx_162 (pc' := 176) (L' := [some (.ref p0), some (.int p1), some (.int p2), some (.int v2), some (.int v11), some (.int v17), none, none]) (st' := [.int v11, .ref a19, .int ((16 : Int32) * v11), .ref a18]) bo_162_174_413a52 rfl ?_
        refine r_aI mx_162 li_162_176 h (fun v20 h => ?_)
        refine EV_stq mx_162 (pc' := 178) (L' := [some (.ref p0), some (.int p1), some (.int p2), some (.int v2), some (.int v11), some (.int v17), none, none]) (st' := [.int (((16 : Int32) * v11) + v20), .ref a18]) bo_162_177_ee2102 rfl ?_
        refine r_aI mx_162 li_162_178 h (fun v21 h => ?_)
        refine EV_stq mx_162 (pc' := 182) (L' := [some (.ref p0), some (.int p1), some (.int p2), some (.int v2), some (.int v11), some (.int v17), some (.int v21), none]) (st' := [.ref p0]) bo_162_179_66cd18 rfl ?_
        refine r_gA mx_162 li_162_182 fd_14_144 rfl h (fun a22 h => ?_)
        refine EV_stq mx_162 (pc' := 191) (L' := [some (.ref p0), some (.int p1), some (.int p2), some (.int v2), some (.int v11), some (.int v17), some (.int v21), none]) (st' := [.ref p0, .int ((16 : Int32) * v11), .ref a22]) bo_162_185_a174f8 rfl ?_
        refine r_gA mx_162 li_162_191 fd_14_132 rfl h (fun a23 h => ?_)
        refine EV_stq mx_162 (pc' := 196) (L' := [some (.ref p0), some (.int p1), some (.int p2), some (.int v2), some (.int v11), some (.int v17), some (.int v21), none]) (st' := [.int v11, .ref a23, .int ((16 : Int32) * v11), .ref a22]) bo_162_194_f156ea rfl ?_
        refine r_aI mx_162 li_162_196 h (fun v24 h => ?_)
        refine EV_stq mx_162 (pc' := 198) (L' := [some (.ref p0), some (.int p1), some (.int p2), some (.int v2), some (.int v11), some (.int v17), some (.int v21), none]) (st' := [.int (((16 : Int32) * v11) + v24), .ref a22]) bo_162_197_f35caa rfl ?_
        refine r_aI mx_162 li_162_198 h (fun v25 h => ?_)
        refine EV_stq mx_162 (pc' := 202) (L' := [some (.ref p0), some (.int p1), some (.int p2), some (.int v2), some (.int v11), some (.int v17), some (.int v21), some (.int v25)]) (st' := [.ref p0]) bo_162_199_593009 rfl ?_
        refine r_gA mx_162 li_162_202 fd_14_132 rfl h (fun a26 h => ?_)
        refine EV_stq mx_162 (pc' := 208) (L' := [some (.ref p0), some (.int p1), some (.int p2), some (.int v2), some (.int v11), some (.int v17), some (.int v21), some (.int v25)]) (st' := [.int v11, .ref a26, .int v11, .ref a26]) bo_162_205_0d7012 rfl ?_
        refine r_aI mx_162 li_162_208 h (fun v27 h => ?_)
        refine EV_stq mx_162 (pc' := 211) (L' := [some (.ref p0), some (.int p1), some (.int p2), some (.int v2), some (.int v11), some (.int v17), some (.int v21), some (.int v25)]) (st' := [.int (v27 + (1 : Int32)), .int v11, .ref a26]) bo_162_209_0cdd1d rfl ?_
        refine r_sI mx_162 li_162_211 h (fun M28 h => ?_)
        refine EV_stq mx_162 (pc' := 213) (L' := [some (.ref p0), some (.int p1), some (.int p2), some (.int v2), some (.int v11), some (.int v17), some (.int v21), some (.int v25)]) (st' := [.ref p0]) bo_162_212_feaae7 rfl ?_
        refine r_gA mx_162 li_162_213 fd_14_132 rfl h (fun a29 h => ?_)
        refine EV_stq mx_162 (pc' := 218) (L' := [some (.ref p0), some (.int p1), some (.int p2), some (.int v2), some (.int v11), some (.int v17), some (.int v21), some (.int v25)]) (st' := [.int v11, .ref a29]) bo_162_216_2cd73c rfl ?_
        refine r_aI mx_162 li_162_218 h (fun v30 h => ?_)
        refine EV_stq mx_162 (pc' := 220) (L' := [some (.ref p0), some (.int p1), some (.int p2), some (.int v2), some (.int v11), some (.int v17), some (.int v21), some (.int v25)]) (st' := [.ref p0, .int v30]) bo_162_219_d10ead rfl ?_
        refine r_gA mx_162 li_162_220 fd_14_135 rfl h (fun a31 h => ?_)
        refine EV_stq mx_162 (pc' := 227) (L' := [some (.ref p0), some (.int p1), some (.int p2), some (.int v2), some (.int v11), some (.int v17), some (.int v21), some (.int v25)]) (st' := [.int ((4 : Int32) * v11), .ref a31, .int v30]) bo_162_223_35d780 rfl ?_
        refine r_aI mx_162 li_162_227 h (fun v32 h => ?_)
        refine h_ne h (fun h hc => ?_) (fun h hc => ?_)
        · refine r_icF mx_162 li_162_228 (by decide) hc ?_
          refine EV_stq mx_162 (pc' := 234) (L' := [some (.ref p0), some (.int p1), some (.int p2), some (.int v2), some (.int v11), some (.int v17), some (.int v21), some (.int v25)]) (st' := [.int v11, .ref p0]) bo_162_231_7599af rfl ?_
          refine h_ck h (fun hc h => ?_)
          refine h_cV h (fun M33 e h => ?_)
          refine EV_call [.ref p0, .int v11] [] mx_162 li_162_234 rfl rfl si_14_331 rfl (by decide) (by decide) (by omega) ma_154 rfl (Nat.le_of_ble_eq_true rfl) rfl rfl (Nat.le_of_ble_eq_true rfl) (rc_1 mt_at_154 rfl rfl (by decide) hc) (e_m_pops (by omega) p0 v11 M28 _ e) ?_
          show EV d 162 237 [some (.ref p0), some (.int p1), some (.int p2), some (.int v2), some (.int v11), some (.int v17), some (.int v21), some (.int v25)] [] M33 _
          refine EV_forget (A := [some (.ref p0), some (.int p1), some (.int p2), none, none, some (.int v17), some (.int v21), some (.int v25)]) (lsub_of _ _ ⟨Or.inr rfl, ⟨Or.inr rfl, ⟨Or.inr rfl, ⟨Or.inl rfl, ⟨Or.inl rfl, ⟨Or.inr rfl, ⟨Or.inr rfl, ⟨Or.inr rfl, trivial⟩⟩⟩⟩⟩⟩⟩⟩) ?_
          exact e_m_takes_237 hd p0 p1 p2 v17 v21 v25 M33 r h
        · refine r_icT mx_162 li_162_228 (by decide) rfl hc ?_
          refine EV_forget (A := [some (.ref p0), some (.int p1), some (.int p2), none, none, some (.int v17), some (.int v21), some (.int v25)]) (lsub_of _ _ ⟨Or.inr rfl, ⟨Or.inr rfl, ⟨Or.inr rfl, ⟨Or.inl rfl, ⟨Or.inl rfl, ⟨Or.inr rfl, ⟨Or.inr rfl, ⟨Or.inr rfl, trivial⟩⟩⟩⟩⟩⟩⟩⟩) ?_
          exact e_m_takes_237 hd p0 p1 p2 v17 v21 v25 M28 r h
      · refine r_ifF mx_162 li_162_123 (by decide) hc ?_
        refine EV_stq mx_162 (pc' := 129) (L' := [some (.ref p0), some (.int p1), some (.int p2), some (.int v2), some (.int v11), none, none, none]) (st' := [.int v11, .ref p0]) bo_162_126_66327d rfl ?_
        refine h_ck h (fun hc h => ?_)
        refine h_cV h (fun M34 e h => ?_)
        refine EV_call [.ref p0, .int v11] [] mx_162 li_162_129 rfl rfl si_14_331 rfl (by decide) (by decide) (by omega) ma_154 rfl (Nat.le_of_ble_eq_true rfl) rfl rfl (Nat.le_of_ble_eq_true rfl) (rc_1 mt_at_154 rfl rfl (by decide) hc) (e_m_pops (by omega) p0 v11 M10 _ e) ?_
        show EV d 162 132 [some (.ref p0), some (.int p1), some (.int p2), some (.int v2), some (.int v11), none, none, none] [] M34 _
        refine EV_stq mx_162 (pc' := 136) (L' := [some (.ref p0), some (.int p1), some (.int p2), some (.int v2), some (.int v11), none, none, none]) (st' := [.int v2, .int p2, .int p1, .ref p0]) bo_162_132_9a1605 rfl ?_
        refine h_ck h (fun hc h => ?_)
        refine h_cV h (fun M35 e h => ?_)
        refine EV_call [.ref p0, .int p1, .int p2, .int v2] [] mx_162 li_162_136 rfl rfl si_14_334 rfl (by decide) (by decide) (by omega) ma_157 rfl (Nat.le_of_ble_eq_true rfl) rfl rfl (Nat.le_of_ble_eq_true rfl) (rc_1 mt_at_157 rfl rfl (by decide) hc) (e_m_barrier (by omega) p0 p1 p2 v2 M34 _ e) ?_
        show EV d 162 139 [some (.ref p0), some (.int p1), some (.int p2), some (.int v2), some (.int v11), none, none, none] [] M35 _
        refine EV_stq mx_162 (pc' := 140) (L' := [some (.ref p0), some (.int p1), some (.int p2), some (.int v2), some (.int v11), none, none, none]) (st' := [.int (1 : Int32)]) bo_162_139_a6de6c rfl ?_
        obtain rfl := Option.some.inj h
        exact r_ret mx_162 li_162_140 rfl (ro_nar (t := .boolean) (by decide) rfl)
    · refine r_ifF mx_162 li_162_77 (by decide) hc ?_
      refine EV_stq mx_162 (pc' := 81) (L' := [some (.ref p0), some (.int p1), some (.int p2), some (.int v2), none, none, none, none]) (st' := [.int (0 : Int32)]) bo_162_80_1d0e60 rfl ?_
      obtain rfl := Option.some.inj h
      exact r_ret mx_162 li_162_81 rfl (ro_nar (t := .boolean) (by decide) rfl)
theorem e_m_works_87 {d : Nat} (hd : 4 ≤ d) (k8 : Nat → Int32 → Int32 → Int32 → Int32 → Mem → Option (Mem)) (hk8 : ∀ l0 l1 l2 l3 l4 M r, k8 l0 l1 l2 l3 l4 M = some r → EV d 163 8 [some (.ref l0), some (.int l1), some (.int l2), some (.int l3), some (.int l4)] [] M (none, r)) (l0 : Nat) (l1 : Int32) (l2 : Int32) (l3 : Int32) (l4 : Int32) (M : Mem) (r : Mem) (h : f_m_works_87 k8 l0 l1 l2 l3 l4 M = some r) : EV d 163 87 [some (.ref l0), some (.int l1), some (.int l2), some (.int l3), some (.int l4)] [] M (none, r) := by
  unfold f_m_works_87 at h
  refine EV_stq mx_163 (pc' := 8) (L' := [some (.ref l0), some (.int l1), some (.int l2), some (.int (l3 + (-1 : Int32))), some (.int l4)]) (st' := []) bo_163_87_140246 rfl ?_
  exact hk8 l0 l1 l2 (l3 + (-1 : Int32)) l4 M r h
theorem e_m_works_35 {d : Nat} (hd : 4 ≤ d) (k8 : Nat → Int32 → Int32 → Int32 → Int32 → Mem → Option (Mem)) (hk8 : ∀ l0 l1 l2 l3 l4 M r, k8 l0 l1 l2 l3 l4 M = some r → EV d 163 8 [some (.ref l0), some (.int l1), some (.int l2), some (.int l3), some (.int l4)] [] M (none, r)) (l0 : Nat) (l1 : Int32) (l2 : Int32) (l3 : Int32) (s0 : Int32) (M : Mem) (r : Mem) (h : f_m_works_35 k8 l0 l1 l2 l3 s0 M = some r) : EV d 163 35 [some (.ref l0), some (.int l1), some (.int l2), some (.int l3), none] [.int s0] M (none, r) := by
  unfold f_m_works_35 at h
  refine EV_stq mx_163 (pc' := 39) (L' := [some (.ref l0), some (.int l1), some (.int l2), some (.int l3), some (.int s0)]) (st' := [.int s0]) bo_163_35_500a16 rfl ?_
  refine h_ne h (fun h hc => ?_) (fun h hc => ?_)
  · refine r_ifF mx_163 li_163_39 (by decide) hc ?_
    refine EV_stq mx_163 (pc' := 43) (L' := [some (.ref l0), some (.int l1), some (.int l2), some (.int l3), some (.int s0)]) (st' := [.ref l0]) bo_163_42_b358e7 rfl ?_
    refine r_gA mx_163 li_163_43 fd_14_50 rfl h (fun a6 h => ?_)
    refine EV_stq mx_163 (pc' := 48) (L' := [some (.ref l0), some (.int l1), some (.int l2), some (.int l3), some (.int s0)]) (st' := [.int l1, .ref a6, .int l1, .ref a6]) bo_163_46_341f4e rfl ?_
    refine r_aI mx_163 li_163_48 h (fun v7 h => ?_)
    refine EV_stq mx_163 (pc' := 51) (L' := [some (.ref l0), some (.int l1), some (.int l2), some (.int l3), some (.int s0)]) (st' := [.int (v7 + (1 : Int32)), .int l1, .ref a6]) bo_163_49_23be2b rfl ?_
    refine r_sI mx_163 li_163_51 h (fun M8 h => ?_)
    refine EV_stq mx_163 (pc' := 87) (L' := [some (.ref l0), some (.int l1), some (.int l2), some (.int l3), some (.int s0)]) (st' := []) bo_163_52_118d3f rfl ?_
    exact e_m_works_87 hd k8 hk8 l0 l1 l2 l3 s0 M8 r h
  · refine r_ifT mx_163 li_163_39 (by decide) rfl hc ?_
    refine EV_stq mx_163 (pc' := 56) (L' := [some (.ref l0), some (.int l1), some (.int l2), some (.int l3), some (.int s0)]) (st' := [.int l3]) bo_163_55_bd1207 rfl ?_
    refine h_ne h (fun h hc => ?_) (fun h hc => ?_)
    · refine r_ifF mx_163 li_163_56 (by decide) hc ?_
      refine EV_stq mx_163 (pc' := 87) (L' := [some (.ref l0), some (.int l1), some (.int l2), some (.int l3), some (.int (0 : Int32))]) (st' := []) bo_163_59_e1a4dd rfl ?_
      exact e_m_works_87 hd k8 hk8 l0 l1 l2 l3 (0 : Int32) M r h
    · refine r_ifT mx_163 li_163_56 (by decide) rfl hc ?_
      refine EV_stq mx_163 (pc' := 68) (L' := [some (.ref l0), some (.int l1), some (.int l2), some (.int l3), some (.int s0)]) (st' := [.int l2, .int l1, .ref l0]) bo_163_65_b551c5 rfl ?_
      refine h_ck h (fun hc h => ?_)
      refine h_cI h (fun v2 M1 e h => ?_)
      refine EV_call [.ref l0, .int l1, .int l2] [] mx_163 li_163_68 rfl rfl si_14_364 rfl (by decide) (by decide) (by omega) ma_162 rfl (Nat.le_of_ble_eq_true rfl) rfl rfl (Nat.le_of_ble_eq_true rfl) (rc_1 mt_at_162 rfl rfl (by decide) hc) (e_m_takes (by omega) l0 l1 l2 M _ e) ?_
      show EV d 163 71 [some (.ref l0), some (.int l1), some (.int l2), some (.int l3), some (.int s0)] [.int v2] M1 _
      refine h_ne h (fun h hc => ?_) (fun h hc => ?_)
      · refine r_ifF mx_163 li_163_71 (by decide) hc ?_
        refine EV_stq mx_163 (pc' := 75) (L' := [some (.ref l0), some (.int l1), some (.int l2), some (.int l3), some (.int s0)]) (st' := [.ref l0]) bo_163_74_ac6591 rfl ?_
        refine r_gA mx_163 li_163_75 fd_14_53 rfl h (fun a3 h => ?_)
        refine EV_stq mx_163 (pc' := 80) (L' := [some (.ref l0), some (.int l1), some (.int l2), some (.int l3), some (.int s0)]) (st' := [.int l1, .ref a3, .int l1, .ref a3]) bo_163_78_32a02f rfl ?_
        refine r_aI mx_163 li_163_80 h (fun v4 h => ?_)
        refine EV_stq mx_163 (pc' := 83) (L' := [some (.ref l0), some (.int l1), some (.int l2), some (.int l3), some (.int s0)]) (st' := [.int (v4 + (1 : Int32)), .int l1, .ref a3]) bo_163_81_747218 rfl ?_
        refine r_sI mx_163 li_163_83 h (fun M5 h => ?_)
        refine EV_stq mx_163 (pc' := 87) (L' := [some (.ref l0), some (.int l1), some (.int l2), some (.int l3), some (.int (0 : Int32))]) (st' := []) bo_163_84_fc726c rfl ?_
        exact e_m_works_87 hd k8 hk8 l0 l1 l2 l3 (0 : Int32) M5 r h
      · refine r_ifT mx_163 li_163_71 (by decide) rfl hc ?_
        exact e_m_works_87 hd k8 hk8 l0 l1 l2 l3 s0 M1 r h
theorem e_m_works_30 {d : Nat} (hd : 4 ≤ d) (k8 : Nat → Int32 → Int32 → Int32 → Int32 → Mem → Option (Mem)) (hk8 : ∀ l0 l1 l2 l3 l4 M r, k8 l0 l1 l2 l3 l4 M = some r → EV d 163 8 [some (.ref l0), some (.int l1), some (.int l2), some (.int l3), some (.int l4)] [] M (none, r)) (l0 : Nat) (l1 : Int32) (l2 : Int32) (l3 : Int32) (M : Mem) (r : Mem) (h : f_m_works_30 k8 l0 l1 l2 l3 M = some r) : EV d 163 30 [some (.ref l0), some (.int l1), some (.int l2), some (.int l3), none] [] M (none, r) := by
  unfold f_m_works_30 at h
  refine EV_stq mx_163 (pc' := 35) (L' := [some (.ref l0), some (.int l1), some (.int l2), some (.int l3), none]) (st' := [.int (1 : Int32)]) bo_163_30_e4fc54 rfl ?_
  exact e_m_works_35 hd k8 hk8 l0 l1 l2 l3 (1 : Int32) M r h
theorem e_m_works_8 {d : Nat} (hd : 4 ≤ d) : ∀ (n : Nat) (l0 : Nat) (l1 : Int32) (l2 : Int32) (l3 : Int32) (l4 : Int32) (M : Mem) (r : Mem), f_m_works_8 n l0 l1 l2 l3 l4 M = some r → EV d 163 8 [some (.ref l0), some (.int l1), some (.int l2), some (.int l3), some (.int l4)] [] M (none, r) := by
  intro n
  induction n with
  | zero => intro l0 l1 l2 l3 l4 M r h; cases h
  | succ n ih =>
    intro l0 l1 l2 l3 l4 M r h
    unfold f_m_works_8 at h
    refine EV_stq mx_163 (pc' := 10) (L' := [some (.ref l0), some (.int l1), some (.int l2), some (.int l3), some (.int l4)]) (st' := [.int l4]) bo_163_8_383530 rfl ?_
    refine h_eq h (fun h hc => ?_) (fun h hc => ?_)
    · refine r_ifT mx_163 li_163_10 (by decide) rfl hc ?_
      obtain rfl := Option.some.inj h
      exact r_ret mx_163 li_163_93 rfl rfl
    · refine r_ifF mx_163 li_163_10 (by decide) hc ?_
      refine EV_stq mx_163 (pc' := 15) (L' := [some (.ref l0), some (.int l1), some (.int l2), some (.int l3), some (.int l4)]) (st' := [.ref l0, .int l1]) bo_163_13_1f05a9 rfl ?_
      refine h_ck h (fun hc h => ?_)
      refine h_cI h (fun v2 M1 e h => ?_)
      refine EV_call [.ref l0] [.int l1] mx_163 li_163_15 rfl rfl si_14_199 rfl (by decide) (by decide) (by omega) ma_140 rfl (Nat.le_of_ble_eq_true rfl) rfl rfl (Nat.le_of_ble_eq_true rfl) (rc_1 mt_at_140 rfl rfl (by decide) hc) (e_m_sink (by omega) l0 M _ e) ?_
      show EV d 163 18 [some (.ref l0), some (.int l1), some (.int l2), some (.int l3), some (.int l4)] [.int v2, .int l1] M1 _
      refine h_eq h (fun h hc => ?_) (fun h hc => ?_)
      · refine r_icT mx_163 li_163_18 (by decide) rfl hc ?_
        refine EV_forget (A := [some (.ref l0), some (.int l1), some (.int l2), some (.int l3), none]) (lsub_of _ _ ⟨Or.inr rfl, ⟨Or.inr rfl, ⟨Or.inr rfl, ⟨Or.inr rfl, ⟨Or.inl rfl, trivial⟩⟩⟩⟩⟩) ?_
        exact e_m_works_30 hd _ ih l0 l1 l2 l3 M1 r h
      · refine r_icF mx_163 li_163_18 (by decide) hc ?_
        refine EV_stq mx_163 (pc' := 24) (L' := [some (.ref l0), some (.int l1), some (.int l2), some (.int l3), some (.int l4)]) (st' := [.int l2, .int l1, .ref l0]) bo_163_21_cd309e rfl ?_
        refine h_ck h (fun hc h => ?_)
        refine h_cI h (fun v4 M3 e h => ?_)
        refine EV_call [.ref l0, .int l1, .int l2] [] mx_163 li_163_24 rfl rfl si_14_360 rfl (by decide) (by decide) (by omega) ma_151 rfl (Nat.le_of_ble_eq_true rfl) rfl rfl (Nat.le_of_ble_eq_true rfl) (rc_1 mt_at_151 rfl rfl (by decide) hc) (e_m_sends (by omega) l0 l1 l2 M1 _ e) ?_
        show EV d 163 27 [some (.ref l0), some (.int l1), some (.int l2), some (.int l3), some (.int l4)] [.int v4] M3 _
        refine h_eq h (fun h hc => ?_) (fun h hc => ?_)
        · refine r_ifT mx_163 li_163_27 (by decide) rfl hc ?_
          refine EV_stq mx_163 (pc' := 35) (L' := [some (.ref l0), some (.int l1), some (.int l2), some (.int l3), some (.int l4)]) (st' := [.int (0 : Int32)]) bo_163_34_130638 rfl ?_
          refine EV_forget (A := [some (.ref l0), some (.int l1), some (.int l2), some (.int l3), none]) (lsub_of _ _ ⟨Or.inr rfl, ⟨Or.inr rfl, ⟨Or.inr rfl, ⟨Or.inr rfl, ⟨Or.inl rfl, trivial⟩⟩⟩⟩⟩) ?_
          exact e_m_works_35 hd _ ih l0 l1 l2 l3 (0 : Int32) M3 r h
        · refine r_ifF mx_163 li_163_27 (by decide) hc ?_
          refine EV_forget (A := [some (.ref l0), some (.int l1), some (.int l2), some (.int l3), none]) (lsub_of _ _ ⟨Or.inr rfl, ⟨Or.inr rfl, ⟨Or.inr rfl, ⟨Or.inr rfl, ⟨Or.inl rfl, trivial⟩⟩⟩⟩⟩) ?_
          exact e_m_works_30 hd _ ih l0 l1 l2 l3 M3 r h
theorem e_m_works {d : Nat} (hd : 4 ≤ d) (p0 : Nat) (p1 : Int32) (p2 : Int32) (M : Mem) (r : Mem) (h : f_m_works p0 p1 p2 M = some r) : EV d 163 0 (entL 5 [.ref p0, .int p1, .int p2]) [] M (none, r) := by
  show EV d 163 0 [some (.ref p0), some (.int p1), some (.int p2), none, none] [] M _
  unfold f_m_works at h
  refine EV_stq mx_163 (pc' := 1) (L' := [some (.ref p0), some (.int p1), some (.int p2), none, none]) (st' := [.ref p0]) bo_163_0_8d5162 rfl ?_
  refine r_gI mx_163 li_163_1 fd_14_35 ⟨by decide, by decide⟩ h (fun v1 h => ?_)
  refine EV_stq mx_163 (pc' := 8) (L' := [some (.ref p0), some (.int p1), some (.int p2), some (.int v1), some (.int (1 : Int32))]) (st' := []) bo_163_4_607491 rfl ?_
  exact e_m_works_8 hd FU p0 p1 p2 v1 (1 : Int32) M r h
theorem e_m_ticks_76 {d : Nat} (hd : 5 ≤ d) (k17 : Nat → Int32 → Mem → Option (Mem)) (hk17 : ∀ l0 l1 M r, k17 l0 l1 M = some r → EV d 164 17 [some (.ref l0), some (.int l1), none] [] M (none, r)) (l0 : Nat) (l1 : Int32) (M : Mem) (r : Mem) (h : f_m_ticks_76 k17 l0 l1 M = some r) : EV d 164 76 [some (.ref l0), some (.int l1), none] [] M (none, r) := by
  unfold f_m_ticks_76 at h
  refine EV_stq mx_164 (pc' := 17) (L' := [some (.ref l0), some (.int (l1 + (1 : Int32))), none]) (st' := []) bo_164_76_9beeb3 rfl ?_
  exact hk17 l0 (l1 + (1 : Int32)) M r h
theorem e_m_ticks_93 {d : Nat} (hd : 5 ≤ d) (k87 : Nat → Int32 → Mem → Option (Mem)) (hk87 : ∀ l0 l1 M r, k87 l0 l1 M = some r → EV d 164 87 [some (.ref l0), some (.int l1), none] [] M (none, r)) : ∀ (n : Nat) (l0 : Nat) (l1 : Int32) (l2 : Int32) (M : Mem) (r : Mem), f_m_ticks_93 k87 n l0 l1 l2 M = some r → EV d 164 93 [some (.ref l0), some (.int l1), some (.int l2)] [] M (none, r) := by
  intro n
  induction n with
  | zero => intro l0 l1 l2 M r h; cases h
  | succ n ih =>
    intro l0 l1 l2 M r h
    unfold f_m_ticks_93 at h
    refine EV_stq mx_164 (pc' := 95) (L' := [some (.ref l0), some (.int l1), some (.int l2)]) (st' := [.ref l0, .int l2]) bo_164_93_aa3b03 rfl ?_
    refine r_gA mx_164 li_164_95 fd_14_22 rfl h (fun a1 h => ?_)
    refine EV_stq mx_164 (pc' := 99) (L' := [some (.ref l0), some (.int l1), some (.int l2)]) (st' := [.int l1, .ref a1, .int l2]) bo_164_98_9ec1f3 rfl ?_
    refine r_aI mx_164 li_164_99 h (fun v2 h => ?_)
    refine h_ge h (fun h hc => ?_) (fun h hc => ?_)
    · refine r_icT mx_164 li_164_100 (by decide) rfl hc ?_
      refine EV_stq mx_164 (pc' := 87) (L' := [some (.ref l0), some (.int (l1 + (-1 : Int32))), some (.int l2)]) (st' := []) bo_164_115_37ea46 rfl ?_
      refine EV_forget (A := [some (.ref l0), some (.int (l1 + (-1 : Int32))), none]) (lsub_of _ _ ⟨Or.inr rfl, ⟨Or.inr rfl, ⟨Or.inl rfl, trivial⟩⟩⟩) ?_
      exact hk87 l0 (l1 + (-1 : Int32)) M r h
    · refine r_icF mx_164 li_164_100 (by decide) hc ?_
      refine EV_stq mx_164 (pc' := 106) (L' := [some (.ref l0), some (.int l1), some (.int l2)]) (st' := [.int l2, .int l1, .ref l0]) bo_164_103_eba182 rfl ?_
      refine h_ck h (fun hc h => ?_)
      refine h_cV h (fun M3 e h => ?_)
      refine EV_call [.ref l0, .int l1, .int l2] [] mx_164 li_164_106 rfl rfl si_14_367 rfl (by decide) (by decide) (by omega) ma_163 rfl (Nat.le_of_ble_eq_true rfl) rfl rfl (Nat.le_of_ble_eq_true rfl) (rc_1 mt_at_163 rfl rfl (by decide) hc) (e_m_works (by omega) l0 l1 l2 M _ e) ?_
      show EV d 164 109 [some (.ref l0), some (.int l1), some (.int l2)] [] M3 _
      refine EV_stq mx_164 (pc' := 93) (L' := [some (.ref l0), some (.int l1), some (.int (l2 + (1 : Int32)))]) (st' := []) bo_164_109_602ba6 rfl ?_
      exact ih l0 l1 (l2 + (1 : Int32)) M3 r h
theorem e_m_ticks_87 {d : Nat} (hd : 5 ≤ d) : ∀ (n : Nat) (l0 : Nat) (l1 : Int32) (M : Mem) (r : Mem), f_m_ticks_87 n l0 l1 M = some r → EV d 164 87 [some (.ref l0), some (.int l1), none] [] M (none, r) := by
  intro n
  induction n with
  | zero => intro l0 l1 M r h; cases h
  | succ n ih =>
    intro l0 l1 M r h
    unfold f_m_ticks_87 at h
    refine EV_stq mx_164 (pc' := 88) (L' := [some (.ref l0), some (.int l1), none]) (st' := [.int l1]) bo_164_87_816bca rfl ?_
    refine h_lt h (fun h hc => ?_) (fun h hc => ?_)
    · refine r_ifT mx_164 li_164_88 (by decide) rfl hc ?_
      obtain rfl := Option.some.inj h
      exact r_ret mx_164 li_164_121 rfl rfl
    · refine r_ifF mx_164 li_164_88 (by decide) hc ?_
      refine EV_stq mx_164 (pc' := 93) (L' := [some (.ref l0), some (.int l1), some (.int (0 : Int32))]) (st' := []) bo_164_91_e197d6 rfl ?_
      exact e_m_ticks_93 hd _ ih FU l0 l1 (0 : Int32) M r h
theorem e_m_ticks_17 {d : Nat} (hd : 5 ≤ d) : ∀ (n : Nat) (l0 : Nat) (l1 : Int32) (M : Mem) (r : Mem), f_m_ticks_17 n l0 l1 M = some r → EV d 164 17 [some (.ref l0), some (.int l1), none] [] M (none, r) := by
  intro n
  induction n with
  | zero => intro l0 l1 M r h; cases h
  | succ n ih =>
    intro l0 l1 M r h
    unfold f_m_ticks_17 at h
    refine EV_stq mx_164 (pc' := 20) (L' := [some (.ref l0), some (.int l1), none]) (st' := [.int (54 : Int32), .int l1]) bo_164_17_03196b rfl ?_
    refine h_ge h (fun h hc => ?_) (fun h hc => ?_)
    · refine r_icT mx_164 li_164_20 (by decide) rfl hc ?_
      refine EV_stq mx_164 (pc' := 83) (L' := [some (.ref l0), some (.int l1), none]) (st' := [.ref l0]) bo_164_82_d3719d rfl ?_
      refine h_ck h (fun hc h => ?_)
      refine h_cI h (fun v2 M1 e h => ?_)
      refine EV_call [.ref l0] [] mx_164 li_164_83 rfl rfl si_14_199 rfl (by decide) (by decide) (by omega) ma_140 rfl (Nat.le_of_ble_eq_true rfl) rfl rfl (Nat.le_of_ble_eq_true rfl) (rc_1 mt_at_140 rfl rfl (by decide) hc) (e_m_sink (by omega) l0 M _ e) ?_
      show EV d 164 86 [some (.ref l0), some (.int l1), none] [.int v2] M1 _
      refine EV_stq mx_164 (pc' := 87) (L' := [some (.ref l0), some (.int v2), none]) (st' := []) bo_164_86_bff005 rfl ?_
      exact e_m_ticks_87 hd FU l0 v2 M1 r h
    · refine r_icF mx_164 li_164_20 (by decide) hc ?_
      refine EV_stq mx_164 (pc' := 24) (L' := [some (.ref l0), some (.int l1), none]) (st' := [.ref l0]) bo_164_23_b37e12 rfl ?_
      refine r_gA mx_164 li_164_24 fd_14_114 rfl h (fun a3 h => ?_)
      refine EV_stq mx_164 (pc' := 28) (L' := [some (.ref l0), some (.int l1), none]) (st' := [.int l1, .ref a3]) bo_164_27_58fada rfl ?_
      refine r_aI mx_164 li_164_28 h (fun v4 h => ?_)
      refine h_ne h (fun h hc => ?_) (fun h hc => ?_)
      · refine r_ifF mx_164 li_164_29 (by decide) hc ?_
        refine EV_stq mx_164 (pc' := 76) (L' := [some (.ref l0), some (.int l1), none]) (st' := []) bo_164_32_191034 rfl ?_
        exact e_m_ticks_76 hd _ ih l0 l1 M r h
      · refine r_ifT mx_164 li_164_29 (by decide) rfl hc ?_
        refine EV_stq mx_164 (pc' := 36) (L' := [some (.ref l0), some (.int l1), none]) (st' := [.ref l0]) bo_164_35_a976ef rfl ?_
        refine r_gA mx_164 li_164_36 fd_14_117 rfl h (fun a5 h => ?_)
        refine EV_stq mx_164 (pc' := 41) (L' := [some (.ref l0), some (.int l1), none]) (st' := [.int l1, .ref a5, .int l1, .ref a5]) bo_164_39_9c41c6 rfl ?_
        refine r_aI mx_164 li_164_41 h (fun v6 h => ?_)
        refine EV_stq mx_164 (pc' := 44) (L' := [some (.ref l0), some (.int l1), none]) (st' := [.int (v6 + (1 : Int32)), .int l1, .ref a5]) bo_164_42_610feb rfl ?_
        refine r_sI mx_164 li_164_44 h (fun M7 h => ?_)
        refine EV_stq mx_164 (pc' := 46) (L' := [some (.ref l0), some (.int l1), none]) (st' := [.ref l0]) bo_164_45_8e29f2 rfl ?_
        refine r_gA mx_164 li_164_46 fd_14_117 rfl h (fun a8 h => ?_)
        refine EV_stq mx_164 (pc' := 50) (L' := [some (.ref l0), some (.int l1), none]) (st' := [.int l1, .ref a8]) bo_164_49_e052b7 rfl ?_
        refine r_aI mx_164 li_164_50 h (fun v9 h => ?_)
        refine EV_stq mx_164 (pc' := 52) (L' := [some (.ref l0), some (.int l1), none]) (st' := [.ref l0, .int v9]) bo_164_51_93c172 rfl ?_
        refine r_gI mx_164 li_164_52 fd_14_29 ⟨by decide, by decide⟩ h (fun v10 h => ?_)
        refine h_lt h (fun h hc => ?_) (fun h hc => ?_)
        · refine r_icT mx_164 li_164_55 (by decide) rfl hc ?_
          exact e_m_ticks_76 hd _ ih l0 l1 M7 r h
        · refine r_icF mx_164 li_164_55 (by decide) hc ?_
          refine EV_stq mx_164 (pc' := 59) (L' := [some (.ref l0), some (.int l1), none]) (st' := [.ref l0]) bo_164_58_df393a rfl ?_
          refine r_gA mx_164 li_164_59 fd_14_129 rfl h (fun a11 h => ?_)
          refine EV_stq mx_164 (pc' := 63) (L' := [some (.ref l0), some (.int l1), none]) (st' := [.int l1, .ref a11]) bo_164_62_13a257 rfl ?_
          refine r_aI mx_164 li_164_63 h (fun v12 h => ?_)
          refine EV_stq mx_164 (pc' := 65) (L' := [some (.ref l0), some (.int l1), none]) (st' := [.ref l0, .int v12]) bo_164_64_446f01 rfl ?_
          refine r_gI mx_164 li_164_65 fd_14_32 ⟨by decide, by decide⟩ h (fun v13 h => ?_)
          refine h_ge h (fun h hc => ?_) (fun h hc => ?_)
          · refine r_icT mx_164 li_164_68 (by decide) rfl hc ?_
            exact e_m_ticks_76 hd _ ih l0 l1 M7 r h
          · refine r_icF mx_164 li_164_68 (by decide) hc ?_
            refine EV_stq mx_164 (pc' := 73) (L' := [some (.ref l0), some (.int l1), none]) (st' := [.int l1, .ref l0]) bo_164_71_0bf829 rfl ?_
            refine h_ck h (fun hc h => ?_)
            refine h_cV h (fun M14 e h => ?_)
            refine EV_call [.ref l0, .int l1] [] mx_164 li_164_73 rfl rfl si_14_278 rfl (by decide) (by decide) (by omega) ma_139 rfl (Nat.le_of_ble_eq_true rfl) rfl rfl (Nat.le_of_ble_eq_true rfl) (rc_1 mt_at_139 rfl rfl (by decide) hc) (e_m_closes (by omega) l0 l1 M7 _ e) ?_
            show EV d 164 76 [some (.ref l0), some (.int l1), none] [] M14 _
            exact e_m_ticks_76 hd _ ih l0 l1 M14 r h
theorem e_m_ticks {d : Nat} (hd : 5 ≤ d) (p0 : Nat) (M : Mem) (r : Mem) (h : f_m_ticks p0 M = some r) : EV d 164 0 (entL 3 [.ref p0]) [] M (none, r) := by
  show EV d 164 0 [some (.ref p0), none, none] [] M _
  unfold f_m_ticks at h
  refine EV_stq mx_164 (pc' := 2) (L' := [some (.ref p0), none, none]) (st' := [.ref p0, .ref p0]) bo_164_0_264884 rfl ?_
  refine r_gI mx_164 li_164_2 fd_14_243 ⟨by decide, by decide⟩ h (fun v1 h => ?_)
  refine EV_stq mx_164 (pc' := 7) (L' := [some (.ref p0), none, none]) (st' := [.int (v1 + (1 : Int32)), .ref p0]) bo_164_5_ca77c4 rfl ?_
  refine r_pI mx_164 li_164_7 fd_14_243 (Or.inl rfl) rfl h (fun M2 h => ?_)
  refine EV_stq mx_164 (pc' := 12) (L' := [some (.ref p0), none, none]) (st' := [.int (1 : Int32), .ref p0]) bo_164_10_42a704 rfl ?_
  refine r_pZ mx_164 li_164_12 fd_14_259 (Or.inl rfl) rfl h (fun M3 h => ?_)
  refine EV_stq mx_164 (pc' := 17) (L' := [some (.ref p0), some (.int (0 : Int32)), none]) (st' := []) bo_164_15_d45c32 rfl ?_
  exact e_m_ticks_17 hd FU p0 (0 : Int32) M3 r h
theorem e_m_tick_16 {d : Nat} (hd : 6 ≤ d) : ∀ (n : Nat) (l0 : Nat) (l1 : Int32) (l2 : Int32) (M : Mem) (r : Int32 × Mem), f_m_tick_16 n l0 l1 l2 M = some r → EV d 165 16 [some (.ref l0), some (.int l1), some (.int l2)] [] M (some (.int r.1), r.2) := by
  intro n
  induction n with
  | zero => intro l0 l1 l2 M r h; cases h
  | succ n ih =>
    intro l0 l1 l2 M r h
    unfold f_m_tick_16 at h
    refine EV_stq mx_165 (pc' := 18) (L' := [some (.ref l0), some (.int l1), some (.int l2)]) (st' := [.int l1, .int l2]) bo_165_16_f4f9fa rfl ?_
    refine h_ge h (fun h hc => ?_) (fun h hc => ?_)
    · refine r_icT mx_165 li_165_18 (by decide) rfl hc ?_
      refine EV_stq mx_165 (pc' := 39) (L' := [some (.ref l0), some (.int l1), some (.int l2)]) (st' := [.int l2]) bo_165_38_c8c763 rfl ?_
      obtain rfl := Option.some.inj h
      exact r_ret mx_165 li_165_39 rfl ro_int
    · refine r_icF mx_165 li_165_18 (by decide) hc ?_
      refine EV_stq mx_165 (pc' := 22) (L' := [some (.ref l0), some (.int l1), some (.int l2)]) (st' := [.ref l0]) bo_165_21_46c79c rfl ?_
      refine h_ck h (fun hc h => ?_)
      refine h_cI h (fun v2 M1 e h => ?_)
      refine EV_call [.ref l0] [] mx_165 li_165_22 rfl rfl si_14_370 rfl (by decide) (by decide) (by omega) ma_138 rfl (Nat.le_of_ble_eq_true rfl) rfl rfl (Nat.le_of_ble_eq_true rfl) (rc_1 mt_at_138 rfl rfl (by decide) hc) (e_m_quiet (by omega) l0 M _ e) ?_
      show EV d 165 25 [some (.ref l0), some (.int l1), some (.int l2)] [.int v2] M1 _
      refine h_ne h (fun h hc => ?_) (fun h hc => ?_)
      · refine r_ifF mx_165 li_165_25 (by decide) hc ?_
        refine EV_stq mx_165 (pc' := 29) (L' := [some (.ref l0), some (.int l1), some (.int l2)]) (st' := [.ref l0]) bo_165_28_f39cd0 rfl ?_
        refine h_ck h (fun hc h => ?_)
        refine h_cV h (fun M3 e h => ?_)
        refine EV_call [.ref l0] [] mx_165 li_165_29 rfl rfl si_14_374 rfl (by decide) (by decide) (by omega) ma_164 rfl (Nat.le_of_ble_eq_true rfl) rfl rfl (Nat.le_of_ble_eq_true rfl) (rc_1 mt_at_164 rfl rfl (by decide) hc) (e_m_ticks (by omega) l0 M1 _ e) ?_
        show EV d 165 32 [some (.ref l0), some (.int l1), some (.int l2)] [] M3 _
        refine EV_stq mx_165 (pc' := 16) (L' := [some (.ref l0), some (.int l1), some (.int (l2 + (1 : Int32)))]) (st' := []) bo_165_32_93ea17 rfl ?_
        exact ih l0 l1 (l2 + (1 : Int32)) M3 r h
      · refine r_ifT mx_165 li_165_25 (by decide) rfl hc ?_
        refine EV_stq mx_165 (pc' := 39) (L' := [some (.ref l0), some (.int l1), some (.int l2)]) (st' := [.int l2]) bo_165_38_c8c763 rfl ?_
        obtain rfl := Option.some.inj h
        exact r_ret mx_165 li_165_39 rfl ro_int
theorem e_m_tick {d : Nat} (hd : 6 ≤ d) (p0 : Nat) (p1 : Int32) (M : Mem) (r : Int32 × Mem) (h : f_m_tick p0 p1 M = some r) : EV d 165 0 (entL 3 [.ref p0, .int p1]) [] M (some (.int r.1), r.2) := by
  show EV d 165 0 [some (.ref p0), some (.int p1), none] [] M _
  unfold f_m_tick at h
  refine EV_stq mx_165 (pc' := 5) (L' := [some (.ref p0), some (.int p1), none]) (st' := [.int (200 : Int32), .int (1 : Int32), .int p1]) bo_165_0_8b3750 rfl ?_
  refine h_cI h (fun v2 M1 e h => ?_)
  refine EV_call [.int p1, .int (1 : Int32), .int (200 : Int32)] [] mx_165 li_165_5 rfl rfl si_14_203 rfl (by decide) (by decide) (by omega) ma_29 rfl (Nat.le_of_ble_eq_true rfl) rfl rfl (Nat.le_of_ble_eq_true rfl) rfl (e_m_isIn (by omega) p1 (1 : Int32) (200 : Int32) M _ e) ?_
  show EV d 165 8 [some (.ref p0), some (.int p1), none] [.int v2] M1 _
  refine h_ne h (fun h hc => ?_) (fun h hc => ?_)
  · refine r_ifF mx_165 li_165_8 (by decide) hc ?_
    refine EV_stq mx_165 (pc' := 13) (L' := [some (.ref p0), some (.int p1), none]) (st' := [.int (-1000000002 : Int32)]) bo_165_11_081257 rfl ?_
    obtain rfl := Option.some.inj h
    exact r_ret mx_165 li_165_13 rfl ro_int
  · refine r_ifT mx_165 li_165_8 (by decide) rfl hc ?_
    refine EV_stq mx_165 (pc' := 16) (L' := [some (.ref p0), some (.int p1), some (.int (0 : Int32))]) (st' := []) bo_165_14_4d7356 rfl ?_
    exact e_m_tick_16 hd FU p0 p1 (0 : Int32) M1 r h
theorem e_x_isQuiet {d : Nat} (hd : 4 ≤ d) (p0 : Nat) (M : Mem) (r : Int32 × Mem) (h : f_x_isQuiet p0 M = some r) : EV d 166 0 (entL 1 [.ref p0]) [] M (some (.int r.1), r.2) := by
  show EV d 166 0 [some (.ref p0)] [] M _
  unfold f_x_isQuiet at h
  refine EV_stq mx_166 (pc' := 1) (L' := [some (.ref p0)]) (st' := [.ref p0]) bo_166_0_8d5162 rfl ?_
  refine r_gA mx_166 li_166_1 fd_13_31 rfl h (fun a1 h => ?_)
  refine h_ck h (fun hc h => ?_)
  refine h_cI h (fun v3 M2 e h => ?_)
  refine EV_call [.ref a1] [] mx_166 li_166_4 rfl rfl si_13_114 rfl (by decide) (by decide) (by omega) ma_93 rfl (Nat.le_of_ble_eq_true rfl) rfl rfl (Nat.le_of_ble_eq_true rfl) (rc_1 mt_at_93 rfl rfl (by decide) hc) (e_sm_quiet (by omega) a1 M _ e) ?_
  show EV d 166 7 [some (.ref p0)] [.int v3] M2 _
  refine h_eq h (fun h hc => ?_) (fun h hc => ?_)
  · refine r_ifT mx_166 li_166_7 (by decide) rfl hc ?_
    refine EV_stq mx_166 (pc' := 15) (L' := [some (.ref p0)]) (st' := [.int (0 : Int32)]) bo_166_14_3e81ce rfl ?_
    obtain rfl := Option.some.inj h
    exact r_ret mx_166 li_166_15 rfl ro_int
  · refine r_ifF mx_166 li_166_7 (by decide) hc ?_
    refine EV_stq mx_166 (pc' := 15) (L' := [some (.ref p0)]) (st' := [.int (1 : Int32)]) bo_166_10_42a704 rfl ?_
    obtain rfl := Option.some.inj h
    exact r_ret mx_166 li_166_15 rfl ro_int
theorem e_m_isQuiet {d : Nat} (hd : 1 ≤ d) (p0 : Nat) (M : Mem) (r : Int32 × Mem) (h : f_m_isQuiet p0 M = some r) : EV d 167 0 (entL 1 [.ref p0]) [] M (some (.int r.1), r.2) := by
  show EV d 167 0 [some (.ref p0)] [] M _
  unfold f_m_isQuiet at h
  refine EV_stq mx_167 (pc' := 1) (L' := [some (.ref p0)]) (st' := [.ref p0]) bo_167_0_8d5162 rfl ?_
  refine h_ck h (fun hc h => ?_)
  refine h_cI h (fun v2 M1 e h => ?_)
  refine EV_call [.ref p0] [] mx_167 li_167_1 rfl rfl si_14_370 rfl (by decide) (by decide) (by omega) ma_138 rfl (Nat.le_of_ble_eq_true rfl) rfl rfl (Nat.le_of_ble_eq_true rfl) (rc_1 mt_at_138 rfl rfl (by decide) hc) (e_m_quiet (by omega) p0 M _ e) ?_
  show EV d 167 4 [some (.ref p0)] [.int v2] M1 _
  refine h_eq h (fun h hc => ?_) (fun h hc => ?_)
  · refine r_ifT mx_167 li_167_4 (by decide) rfl hc ?_
    refine EV_stq mx_167 (pc' := 12) (L' := [some (.ref p0)]) (st' := [.int (0 : Int32)]) bo_167_11_081257 rfl ?_
    obtain rfl := Option.some.inj h
    exact r_ret mx_167 li_167_12 rfl ro_int
  · refine r_ifF mx_167 li_167_4 (by decide) hc ?_
    refine EV_stq mx_167 (pc' := 12) (L' := [some (.ref p0)]) (st' := [.int (1 : Int32)]) bo_167_7_7eef78 rfl ?_
    obtain rfl := Option.some.inj h
    exact r_ret mx_167 li_167_12 rfl ro_int
theorem e_sm_beginCheckpoint {d : Nat} (hd : 2 ≤ d) (p0 : Nat) (M : Mem) (r : Mem) (h : f_sm_beginCheckpoint p0 M = some r) : EV d 168 0 (entL 2 [.ref p0]) [] M (none, r) := by
  show EV d 168 0 [some (.ref p0), none] [] M _
  unfold f_sm_beginCheckpoint at h
  refine EV_stq mx_168 (pc' := 2) (L' := [some (.ref p0), none]) (st' := [.int (1 : Int32), .ref p0]) bo_168_0_264884 rfl ?_
  refine r_pZ mx_168 li_168_2 fd_10_106 (Or.inl rfl) rfl h (fun M1 h => ?_)
  refine EV_stq mx_168 (pc' := 7) (L' := [some (.ref p0), none]) (st' := [.ref p0, .ref p0]) bo_168_5_ca77c4 rfl ?_
  refine r_gI mx_168 li_168_7 fd_10_100 ⟨by decide, by decide⟩ h (fun v2 h => ?_)
  refine EV_stq mx_168 (pc' := 12) (L' := [some (.ref p0), none]) (st' := [.int (v2 + (1 : Int32)), .ref p0]) bo_168_10_42a704 rfl ?_
  refine r_pI mx_168 li_168_12 fd_10_126 (Or.inl rfl) rfl h (fun M3 h => ?_)
  refine EV_stq mx_168 (pc' := 18) (L' := [some (.ref p0), none]) (st' := [.ref p0, .ref p0, .ref p0]) bo_168_15_f418fa rfl ?_
  refine r_gI mx_168 li_168_18 fd_10_50 ⟨by decide, by decide⟩ h (fun v4 h => ?_)
  refine EV_stq mx_168 (pc' := 23) (L' := [some (.ref p0), none]) (st' := [.int (v4 + (1 : Int32)), .ref p0, .ref p0]) bo_168_21_13696e rfl ?_
  refine h_ck h (fun hc h => ?_)
  refine h_cI h (fun v6 M5 e h => ?_)
  refine EV_call [.ref p0, .int (v4 + (1 : Int32))] [.ref p0] mx_168 li_168_23 rfl rfl si_10_129 rfl (by decide) (by decide) (by omega) ma_90 rfl (Nat.le_of_ble_eq_true rfl) rfl rfl (Nat.le_of_ble_eq_true rfl) (rc_1 mt_at_90 rfl rfl (by decide) hc) (e_sm_sizeOf (by omega) p0 (v4 + (1 : Int32)) M3 _ e) ?_
  show EV d 168 26 [some (.ref p0), none] [.int v6, .ref p0] M5 _
  refine r_pI mx_168 li_168_26 fd_10_132 (Or.inl rfl) rfl h (fun M7 h => ?_)
  refine EV_stq mx_168 (pc' := 31) (L' := [some (.ref p0), none]) (st' := [.ref p0, .ref p0]) bo_168_29_2746c1 rfl ?_
  refine r_gI mx_168 li_168_31 fd_10_135 ⟨by decide, by decide⟩ h (fun v8 h => ?_)
  refine r_pI mx_168 li_168_34 fd_10_138 (Or.inl rfl) rfl h (fun M9 h => ?_)
  refine EV_stq mx_168 (pc' := 40) (L' := [some (.ref p0), none]) (st' := [.int (0 : Int32), .int (0 : Int32), .ref p0]) bo_168_37_8043bb rfl ?_
  refine h_ck h (fun hc h => ?_)
  refine h_cR h (fun o11 M10 e h => ?_)
  refine EV_call [.ref p0, .int (0 : Int32), .int (0 : Int32)] [] mx_168 li_168_40 rfl rfl si_10_141 rfl (by decide) (by decide) (by omega) ma_91 rfl (Nat.le_of_ble_eq_true rfl) rfl rfl (Nat.le_of_ble_eq_true rfl) (rc_1 mt_at_91 rfl rfl (by decide) hc) (e_sm_instanceAt (by omega) p0 (0 : Int32) (0 : Int32) M9 _ e) ?_
  refine h_onR (G := fun o => EV d 168 43 [some (.ref p0), none] [rfv o] M10 _) h (fun h => ?_) (fun a12 h => ?_)
  · refine EV_stq mx_168 (pc' := 61) (L' := [some (.ref p0), some (.null)]) (st' := []) bo_168_43_b66fbf rfl ?_
    obtain rfl := Option.some.inj h
    exact r_ret mx_168 li_168_61 rfl rfl
  · refine EV_stq mx_168 (pc' := 50) (L' := [some (.ref p0), some (.ref a12)]) (st' := [.ref a12, .ref a12]) bo_168_43_0dbd3e rfl ?_
    refine r_gI mx_168 li_168_50 fd_10_145 ⟨by decide, by decide⟩ h (fun v13 h => ?_)
    refine r_pI mx_168 li_168_53 fd_10_150 (Or.inl rfl) rfl h (fun M14 h => ?_)
    refine EV_stq mx_168 (pc' := 58) (L' := [some (.ref p0), some (.ref a12)]) (st' := [.int (1 : Int32), .ref a12]) bo_168_56_ba4435 rfl ?_
    refine r_pZ mx_168 li_168_58 fd_10_153 (Or.inl rfl) rfl h (fun M15 h => ?_)
    obtain rfl := Option.some.inj h
    exact r_ret mx_168 li_168_61 rfl rfl
theorem e_x_checkpoint {d : Nat} (hd : 3 ≤ d) (p0 : Nat) (M : Mem) (r : Int32 × Mem) (h : f_x_checkpoint p0 M = some r) : EV d 169 0 (entL 1 [.ref p0]) [] M (some (.int r.1), r.2) := by
  show EV d 169 0 [some (.ref p0)] [] M _
  unfold f_x_checkpoint at h
  refine EV_stq mx_169 (pc' := 1) (L' := [some (.ref p0)]) (st' := [.ref p0]) bo_169_0_8d5162 rfl ?_
  refine r_gA mx_169 li_169_1 fd_13_31 rfl h (fun a1 h => ?_)
  refine r_gI mx_169 li_169_4 fd_13_120 ⟨by decide, by decide⟩ h (fun v2 h => ?_)
  refine h_eq h (fun h hc => ?_) (fun h hc => ?_)
  · refine r_ifT mx_169 li_169_7 (by decide) rfl hc ?_
    refine EV_stq mx_169 (pc' := 14) (L' := [some (.ref p0)]) (st' := [.ref p0]) bo_169_13_15f019 rfl ?_
    refine r_gA mx_169 li_169_14 fd_13_31 rfl h (fun a3 h => ?_)
    refine h_ck h (fun hc h => ?_)
    refine h_cV h (fun M4 e h => ?_)
    refine EV_call [.ref a3] [] mx_169 li_169_17 rfl rfl si_13_124 rfl (by decide) (by decide) (by omega) ma_168 rfl (Nat.le_of_ble_eq_true rfl) rfl rfl (Nat.le_of_ble_eq_true rfl) (rc_1 mt_at_168 rfl rfl (by decide) hc) (e_sm_beginCheckpoint (by omega) a3 M _ e) ?_
    show EV d 169 20 [some (.ref p0)] [] M4 _
    refine EV_stq mx_169 (pc' := 21) (L' := [some (.ref p0)]) (st' := [.ref p0]) bo_169_20_baa9a0 rfl ?_
    refine r_gA mx_169 li_169_21 fd_13_31 rfl h (fun a5 h => ?_)
    refine r_gI mx_169 li_169_24 fd_13_120 ⟨by decide, by decide⟩ h (fun v6 h => ?_)
    obtain rfl := Option.some.inj h
    exact r_ret mx_169 li_169_27 rfl ro_int
  · refine r_ifF mx_169 li_169_7 (by decide) hc ?_
    refine EV_stq mx_169 (pc' := 12) (L' := [some (.ref p0)]) (st' := [.int (-1000000005 : Int32)]) bo_169_10_2a30f5 rfl ?_
    obtain rfl := Option.some.inj h
    exact r_ret mx_169 li_169_12 rfl ro_int
theorem e_m_checkpoint_68 {d : Nat} (hd : 0 ≤ d) : ∀ (n : Nat) (l0 : Nat) (l1 : Int32) (M : Mem) (r : Int32 × Mem), f_m_checkpoint_68 n l0 l1 M = some r → EV d 170 68 [some (.ref l0), some (.int l1)] [] M (some (.int r.1), r.2) := by
  intro n
  induction n with
  | zero => intro l0 l1 M r h; cases h
  | succ n ih =>
    intro l0 l1 M r h
    unfold f_m_checkpoint_68 at h
    refine EV_stq mx_170 (pc' := 71) (L' := [some (.ref l0), some (.int l1)]) (st' := [.int (18 : Int32), .int l1]) bo_170_68_702533 rfl ?_
    refine h_ge h (fun h hc => ?_) (fun h hc => ?_)
    · refine r_icT mx_170 li_170_71 (by decide) rfl hc ?_
      refine EV_stq mx_170 (pc' := 89) (L' := [some (.ref l0), some (.int l1)]) (st' := [.ref l0, .ref l0]) bo_170_87_f249ad rfl ?_
      refine r_gI mx_170 li_170_89 fd_14_271 ⟨by decide, by decide⟩ h (fun v1 h => ?_)
      refine r_pI mx_170 li_170_92 fd_14_312 (Or.inl rfl) rfl h (fun M2 h => ?_)
      refine EV_stq mx_170 (pc' := 96) (L' := [some (.ref l0), some (.int l1)]) (st' := [.ref l0]) bo_170_95_076086 rfl ?_
      refine r_gA mx_170 li_170_96 fd_14_87 rfl h (fun a3 h => ?_)
      refine EV_stq mx_170 (pc' := 101) (L' := [some (.ref l0), some (.int l1)]) (st' := [.ref l0, .int (0 : Int32), .ref a3]) bo_170_99_aace6c rfl ?_
      refine r_gA mx_170 li_170_101 fd_14_84 rfl h (fun a4 h => ?_)
      refine EV_stq mx_170 (pc' := 105) (L' := [some (.ref l0), some (.int l1)]) (st' := [.int (0 : Int32), .ref a4, .int (0 : Int32), .ref a3]) bo_170_104_a38d21 rfl ?_
      refine r_aI mx_170 li_170_105 h (fun v5 h => ?_)
      refine r_sI mx_170 li_170_106 h (fun M6 h => ?_)
      refine EV_stq mx_170 (pc' := 108) (L' := [some (.ref l0), some (.int l1)]) (st' := [.ref l0]) bo_170_107_0ab20e rfl ?_
      refine r_gA mx_170 li_170_108 fd_14_111 rfl h (fun a7 h => ?_)
      refine EV_stq mx_170 (pc' := 113) (L' := [some (.ref l0), some (.int l1)]) (st' := [.int (1 : Int32), .int (0 : Int32), .ref a7]) bo_170_111_e49653 rfl ?_
      refine r_sB mx_170 li_170_113 h (fun M8 h => ?_)
      refine EV_stq mx_170 (pc' := 115) (L' := [some (.ref l0), some (.int l1)]) (st' := [.ref l0]) bo_170_114_28d19b rfl ?_
      refine r_gI mx_170 li_170_115 fd_14_268 ⟨by decide, by decide⟩ h (fun v9 h => ?_)
      obtain rfl := Option.some.inj h
      exact r_ret mx_170 li_170_118 rfl ro_int
    · refine r_icF mx_170 li_170_71 (by decide) hc ?_
      refine EV_stq mx_170 (pc' := 75) (L' := [some (.ref l0), some (.int l1)]) (st' := [.ref l0]) bo_170_74_ac6591 rfl ?_
      refine r_gA mx_170 li_170_75 fd_14_87 rfl h (fun a10 h => ?_)
      refine EV_stq mx_170 (pc' := 80) (L' := [some (.ref l0), some (.int l1)]) (st' := [.int (0 : Int32), .int l1, .ref a10]) bo_170_78_32a02f rfl ?_
      refine r_sI mx_170 li_170_80 h (fun M11 h => ?_)
      refine EV_stq mx_170 (pc' := 68) (L' := [some (.ref l0), some (.int (l1 + (1 : Int32)))]) (st' := []) bo_170_81_9cfde1 rfl ?_
      exact ih l0 (l1 + (1 : Int32)) M11 r h
theorem e_m_checkpoint_33 {d : Nat} (hd : 0 ≤ d) : ∀ (n : Nat) (l0 : Nat) (l1 : Int32) (M : Mem) (r : Int32 × Mem), f_m_checkpoint_33 n l0 l1 M = some r → EV d 170 33 [some (.ref l0), some (.int l1)] [] M (some (.int r.1), r.2) := by
  intro n
  induction n with
  | zero => intro l0 l1 M r h; cases h
  | succ n ih =>
    intro l0 l1 M r h
    unfold f_m_checkpoint_33 at h
    refine EV_stq mx_170 (pc' := 36) (L' := [some (.ref l0), some (.int l1)]) (st' := [.int (96 : Int32), .int l1]) bo_170_33_9ed66c rfl ?_
    refine h_ge h (fun h hc => ?_) (fun h hc => ?_)
    · refine r_icT mx_170 li_170_36 (by decide) rfl hc ?_
      refine EV_stq mx_170 (pc' := 68) (L' := [some (.ref l0), some (.int (0 : Int32))]) (st' := []) bo_170_66_b88f8a rfl ?_
      exact e_m_checkpoint_68 hd FU l0 (0 : Int32) M r h
    · refine r_icF mx_170 li_170_36 (by decide) hc ?_
      refine EV_stq mx_170 (pc' := 40) (L' := [some (.ref l0), some (.int l1)]) (st' := [.ref l0]) bo_170_39_4dcc25 rfl ?_
      refine r_gA mx_170 li_170_40 fd_14_60 rfl h (fun a1 h => ?_)
      refine EV_stq mx_170 (pc' := 45) (L' := [some (.ref l0), some (.int l1)]) (st' := [.int (0 : Int32), .int l1, .ref a1]) bo_170_43_98bd08 rfl ?_
      refine r_sB mx_170 li_170_45 h (fun M2 h => ?_)
      refine EV_stq mx_170 (pc' := 47) (L' := [some (.ref l0), some (.int l1)]) (st' := [.ref l0]) bo_170_46_4b02d4 rfl ?_
      refine r_gA mx_170 li_170_47 fd_14_69 rfl h (fun a3 h => ?_)
      refine EV_stq mx_170 (pc' := 52) (L' := [some (.ref l0), some (.int l1)]) (st' := [.int (0 : Int32), .int l1, .ref a3]) bo_170_50_b22ebb rfl ?_
      refine r_sI mx_170 li_170_52 h (fun M4 h => ?_)
      refine EV_stq mx_170 (pc' := 54) (L' := [some (.ref l0), some (.int l1)]) (st' := [.ref l0]) bo_170_53_a422c0 rfl ?_
      refine r_gA mx_170 li_170_54 fd_14_78 rfl h (fun a5 h => ?_)
      refine EV_stq mx_170 (pc' := 59) (L' := [some (.ref l0), some (.int l1)]) (st' := [.int (0 : Int32), .int l1, .ref a5]) bo_170_57_1292c4 rfl ?_
      refine r_sI mx_170 li_170_59 h (fun M6 h => ?_)
      refine EV_stq mx_170 (pc' := 33) (L' := [some (.ref l0), some (.int (l1 + (1 : Int32)))]) (st' := []) bo_170_60_273e85 rfl ?_
      exact ih l0 (l1 + (1 : Int32)) M6 r h
theorem e_m_checkpoint {d : Nat} (hd : 0 ≤ d) (p0 : Nat) (M : Mem) (r : Int32 × Mem) (h : f_m_checkpoint p0 M = some r) : EV d 170 0 (entL 2 [.ref p0]) [] M (some (.int r.1), r.2) := by
  show EV d 170 0 [some (.ref p0), none] [] M _
  unfold f_m_checkpoint at h
  refine EV_stq mx_170 (pc' := 1) (L' := [some (.ref p0), none]) (st' := [.ref p0]) bo_170_0_8d5162 rfl ?_
  refine r_gI mx_170 li_170_1 fd_14_268 ⟨by decide, by decide⟩ h (fun v1 h => ?_)
  refine h_le h (fun h hc => ?_) (fun h hc => ?_)
  · refine r_ifT mx_170 li_170_4 (by decide) rfl hc ?_
    refine EV_stq mx_170 (pc' := 13) (L' := [some (.ref p0), none]) (st' := [.ref p0, .ref p0]) bo_170_11_274bbd rfl ?_
    refine r_gI mx_170 li_170_13 fd_14_253 ⟨by decide, by decide⟩ h (fun v2 h => ?_)
    refine EV_stq mx_170 (pc' := 18) (L' := [some (.ref p0), none]) (st' := [.int (v2 + (1 : Int32)), .ref p0]) bo_170_16_f4f9fa rfl ?_
    refine r_pI mx_170 li_170_18 fd_14_268 (Or.inl rfl) rfl h (fun M3 h => ?_)
    refine EV_stq mx_170 (pc' := 23) (L' := [some (.ref p0), none]) (st' := [.int (1 : Int32), .ref p0]) bo_170_21_13696e rfl ?_
    refine r_pZ mx_170 li_170_23 fd_14_259 (Or.inl rfl) rfl h (fun M4 h => ?_)
    refine EV_stq mx_170 (pc' := 28) (L' := [some (.ref p0), none]) (st' := [.int (0 : Int32), .ref p0]) bo_170_26_539da0 rfl ?_
    refine r_pI mx_170 li_170_28 fd_14_318 (Or.inl rfl) rfl h (fun M5 h => ?_)
    refine EV_stq mx_170 (pc' := 33) (L' := [some (.ref p0), some (.int (0 : Int32))]) (st' := []) bo_170_31_f6932f rfl ?_
    exact e_m_checkpoint_33 hd FU p0 (0 : Int32) M5 r h
  · refine r_ifF mx_170 li_170_4 (by decide) hc ?_
    refine EV_stq mx_170 (pc' := 10) (L' := [some (.ref p0), none]) (st' := [.int (-1000000005 : Int32)]) bo_170_7_9b264f rfl ?_
    obtain rfl := Option.some.inj h
    exact r_ret mx_170 li_170_10 rfl ro_int
theorem e_sm_failNow {d : Nat} (hd : 4 ≤ d) (p0 : Nat) (M : Mem) (r : Mem) (h : f_sm_failNow p0 M = some r) : EV d 171 0 (entL 1 [.ref p0]) [] M (none, r) := by
  show EV d 171 0 [some (.ref p0)] [] M _
  unfold f_sm_failNow at h
  refine EV_stq mx_171 (pc' := 1) (L' := [some (.ref p0)]) (st' := [.ref p0]) bo_171_0_8d5162 rfl ?_
  refine h_ck h (fun hc h => ?_)
  refine h_cV h (fun M1 e h => ?_)
  refine EV_call [.ref p0] [] mx_171 li_171_1 rfl rfl si_10_110 rfl (by decide) (by decide) (by omega) ma_68 rfl (Nat.le_of_ble_eq_true rfl) rfl rfl (Nat.le_of_ble_eq_true rfl) (rc_1 mt_at_68 rfl rfl (by decide) hc) (e_sm_returnToSaved (by omega) p0 M _ e) ?_
  show EV d 171 4 [some (.ref p0)] [] M1 _
  refine EV_stq mx_171 (pc' := 6) (L' := [some (.ref p0)]) (st' := [.ref p0, .ref p0]) bo_171_4_40e659 rfl ?_
  refine r_gI mx_171 li_171_6 fd_10_113 ⟨by decide, by decide⟩ h (fun v2 h => ?_)
  refine EV_stq mx_171 (pc' := 11) (L' := [some (.ref p0)]) (st' := [.int (v2 + (1 : Int32)), .ref p0]) bo_171_9_16efa2 rfl ?_
  refine r_pI mx_171 li_171_11 fd_10_113 (Or.inl rfl) rfl h (fun M3 h => ?_)
  obtain rfl := Option.some.inj h
  exact r_ret mx_171 li_171_14 rfl rfl
theorem e_x_fail {d : Nat} (hd : 5 ≤ d) (p0 : Nat) (M : Mem) (r : Int32 × Mem) (h : f_x_fail p0 M = some r) : EV d 172 0 (entL 1 [.ref p0]) [] M (some (.int r.1), r.2) := by
  show EV d 172 0 [some (.ref p0)] [] M _
  unfold f_x_fail at h
  refine EV_stq mx_172 (pc' := 1) (L' := [some (.ref p0)]) (st' := [.ref p0]) bo_172_0_8d5162 rfl ?_
  refine r_gA mx_172 li_172_1 fd_13_31 rfl h (fun a1 h => ?_)
  refine h_ck h (fun hc h => ?_)
  refine h_cV h (fun M2 e h => ?_)
  refine EV_call [.ref a1] [] mx_172 li_172_4 rfl rfl si_13_127 rfl (by decide) (by decide) (by omega) ma_171 rfl (Nat.le_of_ble_eq_true rfl) rfl rfl (Nat.le_of_ble_eq_true rfl) (rc_1 mt_at_171 rfl rfl (by decide) hc) (e_sm_failNow (by omega) a1 M _ e) ?_
  show EV d 172 7 [some (.ref p0)] [] M2 _
  refine EV_stq mx_172 (pc' := 8) (L' := [some (.ref p0)]) (st' := [.ref p0]) bo_172_7_9b264f rfl ?_
  refine r_gA mx_172 li_172_8 fd_13_31 rfl h (fun a3 h => ?_)
  refine r_gI mx_172 li_172_11 fd_13_130 ⟨by decide, by decide⟩ h (fun v4 h => ?_)
  obtain rfl := Option.some.inj h
  exact r_ret mx_172 li_172_14 rfl ro_int
theorem e_m_fail {d : Nat} (hd : 1 ≤ d) (p0 : Nat) (M : Mem) (r : Int32 × Mem) (h : f_m_fail p0 M = some r) : EV d 173 0 (entL 1 [.ref p0]) [] M (some (.int r.1), r.2) := by
  show EV d 173 0 [some (.ref p0)] [] M _
  unfold f_m_fail at h
  refine EV_stq mx_173 (pc' := 2) (L' := [some (.ref p0)]) (st' := [.ref p0, .ref p0]) bo_173_0_264884 rfl ?_
  refine r_gI mx_173 li_173_2 fd_14_256 ⟨by decide, by decide⟩ h (fun v1 h => ?_)
  refine EV_stq mx_173 (pc' := 7) (L' := [some (.ref p0)]) (st' := [.int (v1 + (1 : Int32)), .ref p0]) bo_173_5_ca77c4 rfl ?_
  refine r_pI mx_173 li_173_7 fd_14_256 (Or.inl rfl) rfl h (fun M2 h => ?_)
  refine EV_stq mx_173 (pc' := 11) (L' := [some (.ref p0)]) (st' := [.ref p0]) bo_173_10_2a30f5 rfl ?_
  refine h_ck h (fun hc h => ?_)
  refine h_cV h (fun M3 e h => ?_)
  refine EV_call [.ref p0] [] mx_173 li_173_11 rfl rfl si_14_265 rfl (by decide) (by decide) (by omega) ma_79 rfl (Nat.le_of_ble_eq_true rfl) rfl rfl (Nat.le_of_ble_eq_true rfl) (rc_1 mt_at_79 rfl rfl (by decide) hc) (e_m_breaks (by omega) p0 M2 _ e) ?_
  show EV d 173 14 [some (.ref p0)] [] M3 _
  refine EV_stq mx_173 (pc' := 15) (L' := [some (.ref p0)]) (st' := [.ref p0]) bo_173_14_3e81ce rfl ?_
  refine r_gI mx_173 li_173_15 fd_14_253 ⟨by decide, by decide⟩ h (fun v4 h => ?_)
  obtain rfl := Option.some.inj h
  exact r_ret mx_173 li_173_18 rfl ro_int
theorem e_op_keysMovedBy_42 {d : Nat} (hd : 1 ≤ d) (k4 : Nat → Int32 → Int32 → Int32 → Mem → Option (Int32 × Mem)) (hk4 : ∀ l0 l1 l2 l3 M r, k4 l0 l1 l2 l3 M = some r → EV d 174 4 [some (.ref l0), some (.int l1), some (.int l2), some (.int l3)] [] M (some (.int r.1), r.2)) (l0 : Nat) (l1 : Int32) (l2 : Int32) (l3 : Int32) (M : Mem) (r : Int32 × Mem) (h : f_op_keysMovedBy_42 k4 l0 l1 l2 l3 M = some r) : EV d 174 42 [some (.ref l0), some (.int l1), some (.int l2), some (.int l3)] [] M (some (.int r.1), r.2) := by
  unfold f_op_keysMovedBy_42 at h
  refine EV_stq mx_174 (pc' := 4) (L' := [some (.ref l0), some (.int l1), some (.int l2), some (.int (l3 + (1 : Int32)))]) (st' := []) bo_174_42_1d5896 rfl ?_
  exact hk4 l0 l1 l2 (l3 + (1 : Int32)) M r h
theorem e_op_keysMovedBy_4 {d : Nat} (hd : 1 ≤ d) : ∀ (n : Nat) (l0 : Nat) (l1 : Int32) (l2 : Int32) (l3 : Int32) (M : Mem) (r : Int32 × Mem), f_op_keysMovedBy_4 n l0 l1 l2 l3 M = some r → EV d 174 4 [some (.ref l0), some (.int l1), some (.int l2), some (.int l3)] [] M (some (.int r.1), r.2) := by
  intro n
  induction n with
  | zero => intro l0 l1 l2 l3 M r h; cases h
  | succ n ih =>
    intro l0 l1 l2 l3 M r h
    unfold f_op_keysMovedBy_4 at h
    refine EV_stq mx_174 (pc' := 7) (L' := [some (.ref l0), some (.int l1), some (.int l2), some (.int l3)]) (st' := [.int (16 : Int32), .int l3]) bo_174_4_40e659 rfl ?_
    refine h_ge h (fun h hc => ?_) (fun h hc => ?_)
    · refine r_icT mx_174 li_174_7 (by decide) rfl hc ?_
      refine EV_stq mx_174 (pc' := 49) (L' := [some (.ref l0), some (.int l1), some (.int l2), some (.int l3)]) (st' := [.int l2]) bo_174_48_04c55a rfl ?_
      obtain rfl := Option.some.inj h
      exact r_ret mx_174 li_174_49 rfl ro_int
    · refine r_icF mx_174 li_174_7 (by decide) hc ?_
      refine EV_stq mx_174 (pc' := 11) (L' := [some (.ref l0), some (.int l1), some (.int l2), some (.int l3)]) (st' := [.ref l0]) bo_174_10_2a30f5 rfl ?_
      refine r_gA mx_174 li_174_11 fd_8_20 rfl h (fun a1 h => ?_)
      refine EV_stq mx_174 (pc' := 15) (L' := [some (.ref l0), some (.int l1), some (.int l2), some (.int l3)]) (st' := [.int l3, .ref a1]) bo_174_14_3e81ce rfl ?_
      refine h_ck h (fun hc h => ?_)
      refine h_cI h (fun v3 M2 e h => ?_)
      refine EV_call [.ref a1, .int l3] [] mx_174 li_174_15 rfl rfl si_8_60 rfl (by decide) (by decide) (by omega) ma_130 rfl (Nat.le_of_ble_eq_true rfl) rfl rfl (Nat.le_of_ble_eq_true rfl) (rc_1 mt_at_130 rfl rfl (by decide) hc) (e_ky_has (by omega) a1 l3 M _ e) ?_
      show EV d 174 18 [some (.ref l0), some (.int l1), some (.int l2), some (.int l3)] [.int v3] M2 _
      refine h_eq h (fun h hc => ?_) (fun h hc => ?_)
      · refine r_ifT mx_174 li_174_18 (by decide) rfl hc ?_
        exact e_op_keysMovedBy_42 hd _ ih l0 l1 l2 l3 M2 r h
      · refine r_ifF mx_174 li_174_18 (by decide) hc ?_
        refine EV_stq mx_174 (pc' := 24) (L' := [some (.ref l0), some (.int l1), some (.int l2), some (.int l3)]) (st' := [.ref l0, .int l3, .ref l0]) bo_174_21_cd309e rfl ?_
        refine r_gI mx_174 li_174_24 fd_8_57 ⟨by decide, by decide⟩ h (fun v4 h => ?_)
        refine h_ck h (fun hc h => ?_)
        refine h_cI h (fun v6 M5 e h => ?_)
        refine EV_call [.ref l0, .int l3, .int v4] [] mx_174 li_174_27 rfl rfl si_8_64 rfl (by decide) (by decide) (by omega) ma_100 rfl (Nat.le_of_ble_eq_true rfl) rfl rfl (Nat.le_of_ble_eq_true rfl) (rc_1 mt_at_100 rfl rfl (by decide) hc) (e_op_ownerOf (by omega) l0 l3 v4 M2 _ e) ?_
        show EV d 174 30 [some (.ref l0), some (.int l1), some (.int l2), some (.int l3)] [.int v6] M5 _
        refine EV_stq mx_174 (pc' := 33) (L' := [some (.ref l0), some (.int l1), some (.int l2), some (.int l3)]) (st' := [.int l1, .int l3, .ref l0, .int v6]) bo_174_30_8434fa rfl ?_
        refine h_ck h (fun hc h => ?_)
        refine h_cI h (fun v8 M7 e h => ?_)
        refine EV_call [.ref l0, .int l3, .int l1] [.int v6] mx_174 li_174_33 rfl rfl si_8_64 rfl (by decide) (by decide) (by omega) ma_100 rfl (Nat.le_of_ble_eq_true rfl) rfl rfl (Nat.le_of_ble_eq_true rfl) (rc_1 mt_at_100 rfl rfl (by decide) hc) (e_op_ownerOf (by omega) l0 l3 l1 M5 _ e) ?_
        show EV d 174 36 [some (.ref l0), some (.int l1), some (.int l2), some (.int l3)] [.int v8, .int v6] M7 _
        refine h_eq h (fun h hc => ?_) (fun h hc => ?_)
        · refine r_icT mx_174 li_174_36 (by decide) rfl hc ?_
          exact e_op_keysMovedBy_42 hd _ ih l0 l1 l2 l3 M7 r h
        · refine r_icF mx_174 li_174_36 (by decide) hc ?_
          refine EV_stq mx_174 (pc' := 42) (L' := [some (.ref l0), some (.int l1), some (.int (l2 + (1 : Int32))), some (.int l3)]) (st' := []) bo_174_39_4dcc25 rfl ?_
          exact e_op_keysMovedBy_42 hd _ ih l0 l1 (l2 + (1 : Int32)) l3 M7 r h
theorem e_op_keysMovedBy {d : Nat} (hd : 1 ≤ d) (p0 : Nat) (p1 : Int32) (M : Mem) (r : Int32 × Mem) (h : f_op_keysMovedBy p0 p1 M = some r) : EV d 174 0 (entL 4 [.ref p0, .int p1]) [] M (some (.int r.1), r.2) := by
  show EV d 174 0 [some (.ref p0), some (.int p1), none, none] [] M _
  unfold f_op_keysMovedBy at h
  refine EV_stq mx_174 (pc' := 4) (L' := [some (.ref p0), some (.int p1), some (.int (0 : Int32)), some (.int (0 : Int32))]) (st' := []) bo_174_0_5a4d31 rfl ?_
  exact e_op_keysMovedBy_4 hd FU p0 p1 (0 : Int32) (0 : Int32) M r h
theorem e_sm_changeInstances {d : Nat} (hd : 5 ≤ d) (p0 : Nat) (p1 : Int32) (p2 : Int32) (M : Mem) (r : Int32 × Mem) (h : f_sm_changeInstances p0 p1 p2 M = some r) : EV d 175 0 (entL 5 [.ref p0, .int p1, .int p2]) [] M (some (.int r.1), r.2) := by
  show EV d 175 0 [some (.ref p0), some (.int p1), some (.int p2), none, none] [] M _
  unfold f_sm_changeInstances at h
  refine EV_stq mx_175 (pc' := 1) (L' := [some (.ref p0), some (.int p1), some (.int p2), none, none]) (st' := [.ref p0]) bo_175_0_8d5162 rfl ?_
  refine h_ck h (fun hc h => ?_)
  refine h_cV h (fun M1 e h => ?_)
  refine EV_call [.ref p0] [] mx_175 li_175_1 rfl rfl si_10_116 rfl (by decide) (by decide) (by omega) ma_171 rfl (Nat.le_of_ble_eq_true rfl) rfl rfl (Nat.le_of_ble_eq_true rfl) (rc_1 mt_at_171 rfl rfl (by decide) hc) (e_sm_failNow (by omega) p0 M _ e) ?_
  show EV d 175 4 [some (.ref p0), some (.int p1), some (.int p2), none, none] [] M1 _
  refine EV_stq mx_175 (pc' := 6) (L' := [some (.ref p0), some (.int p1), some (.int p2), none, none]) (st' := [.int p1, .ref p0]) bo_175_4_40e659 rfl ?_
  refine h_ck h (fun hc h => ?_)
  refine h_cR h (fun o3 M2 e h => ?_)
  refine EV_call [.ref p0, .int p1] [] mx_175 li_175_6 rfl rfl si_10_54 rfl (by decide) (by decide) (by omega) ma_56 rfl (Nat.le_of_ble_eq_true rfl) rfl rfl (Nat.le_of_ble_eq_true rfl) (rc_1 mt_at_56 rfl rfl (by decide) hc) (e_sm_operatorAt (by omega) p0 p1 M1 _ e) ?_
  refine h_onR (G := fun o => EV d 175 9 [some (.ref p0), some (.int p1), some (.int p2), none, none] [rfv o] M2 _) h (fun h => ?_) (fun a4 h => ?_)
  · refine EV_stq mx_175 (pc' := 15) (L' := [some (.ref p0), some (.int p1), some (.int p2), some (.null), none]) (st' := [.int (0 : Int32)]) bo_175_9_681304 rfl ?_
    obtain rfl := Option.some.inj h
    exact r_ret mx_175 li_175_15 rfl ro_int
  · refine EV_stq mx_175 (pc' := 18) (L' := [some (.ref p0), some (.int p1), some (.int p2), some (.ref a4), none]) (st' := [.int p2, .ref a4]) bo_175_9_fdbcdb rfl ?_
    refine h_ck h (fun hc h => ?_)
    refine h_cI h (fun v6 M5 e h => ?_)
    refine EV_call [.ref a4, .int p2] [] mx_175 li_175_18 rfl rfl si_10_119 rfl (by decide) (by decide) (by omega) ma_174 rfl (Nat.le_of_ble_eq_true rfl) rfl rfl (Nat.le_of_ble_eq_true rfl) (rc_1 mt_at_174 rfl rfl (by decide) hc) (e_op_keysMovedBy (by omega) a4 p2 M2 _ e) ?_
    show EV d 175 21 [some (.ref p0), some (.int p1), some (.int p2), some (.ref a4), none] [.int v6] M5 _
    refine EV_stq mx_175 (pc' := 25) (L' := [some (.ref p0), some (.int p1), some (.int p2), some (.ref a4), some (.int v6)]) (st' := [.int p2, .ref a4]) bo_175_21_67cba4 rfl ?_
    refine r_pI mx_175 li_175_25 fd_10_58 (Or.inl rfl) rfl h (fun M7 h => ?_)
    refine EV_stq mx_175 (pc' := 29) (L' := [some (.ref p0), some (.int p1), some (.int p2), some (.ref a4), some (.int v6)]) (st' := [.ref a4]) bo_175_28_f39cd0 rfl ?_
    refine h_ck h (fun hc h => ?_)
    refine h_cV h (fun M8 e h => ?_)
    refine EV_call [.ref a4] [] mx_175 li_175_29 rfl rfl si_10_123 rfl (by decide) (by decide) (by omega) ma_60 rfl (Nat.le_of_ble_eq_true rfl) rfl rfl (Nat.le_of_ble_eq_true rfl) (rc_1 mt_at_60 rfl rfl (by decide) hc) (e_op_resetCounters (by omega) a4 M7 _ e) ?_
    show EV d 175 32 [some (.ref p0), some (.int p1), some (.int p2), some (.ref a4), some (.int v6)] [] M8 _
    refine EV_stq mx_175 (pc' := 34) (L' := [some (.ref p0), some (.int p1), some (.int p2), some (.ref a4), some (.int v6)]) (st' := [.int v6]) bo_175_32_191034 rfl ?_
    obtain rfl := Option.some.inj h
    exact r_ret mx_175 li_175_34 rfl ro_int
theorem e_x_rescale {d : Nat} (hd : 6 ≤ d) (p0 : Nat) (p1 : Int32) (p2 : Int32) (M : Mem) (r : Int32 × Mem) (h : f_x_rescale p0 p1 p2 M = some r) : EV d 176 0 (entL 3 [.ref p0, .int p1, .int p2]) [] M (some (.int r.1), r.2) := by
  show EV d 176 0 [some (.ref p0), some (.int p1), some (.int p2)] [] M _
  unfold f_x_rescale at h
  refine EV_stq mx_176 (pc' := 1) (L' := [some (.ref p0), some (.int p1), some (.int p2)]) (st' := [.int p1]) bo_176_0_8d5162 rfl ?_
  refine h_eq h (fun h hc => ?_) (fun h hc => ?_)
  · refine r_ifT mx_176 li_176_1 (by decide) rfl hc ?_
    refine EV_stq mx_176 (pc' := 17) (L' := [some (.ref p0), some (.int p1), some (.int p2)]) (st' := [.int (-1000000001 : Int32)]) bo_176_15_be4250 rfl ?_
    obtain rfl := Option.some.inj h
    exact r_ret mx_176 li_176_17 rfl ro_int
  · refine r_ifF mx_176 li_176_1 (by decide) hc ?_
    refine EV_stq mx_176 (pc' := 5) (L' := [some (.ref p0), some (.int p1), some (.int p2)]) (st' := [.ref p0]) bo_176_4_e962e2 rfl ?_
    refine r_gA mx_176 li_176_5 fd_13_31 rfl h (fun a1 h => ?_)
    refine EV_stq mx_176 (pc' := 9) (L' := [some (.ref p0), some (.int p1), some (.int p2)]) (st' := [.int p1, .ref a1]) bo_176_8_383530 rfl ?_
    refine h_ck h (fun hc h => ?_)
    refine h_cR h (fun o3 M2 e h => ?_)
    refine EV_call [.ref a1, .int p1] [] mx_176 li_176_9 rfl rfl si_13_133 rfl (by decide) (by decide) (by omega) ma_56 rfl (Nat.le_of_ble_eq_true rfl) rfl rfl (Nat.le_of_ble_eq_true rfl) (rc_1 mt_at_56 rfl rfl (by decide) hc) (e_sm_operatorAt (by omega) a1 p1 M _ e) ?_
    refine h_onR (G := fun o => EV d 176 12 [some (.ref p0), some (.int p1), some (.int p2)] [rfv o] M2 _) h (fun h => ?_) (fun a4 h => ?_)
    · refine EV_stq mx_176 (pc' := 17) (L' := [some (.ref p0), some (.int p1), some (.int p2)]) (st' := [.int (-1000000001 : Int32)]) bo_176_12_b800e1 rfl ?_
      obtain rfl := Option.some.inj h
      exact r_ret mx_176 li_176_17 rfl ro_int
    · refine EV_stq mx_176 (pc' := 20) (L' := [some (.ref p0), some (.int p1), some (.int p2)]) (st' := [.int (1 : Int32), .int p2]) bo_176_12_6e6a7c rfl ?_
      refine h_lt h (fun h hc => ?_) (fun h hc => ?_)
      · refine r_icT mx_176 li_176_20 (by decide) rfl hc ?_
        refine EV_stq mx_176 (pc' := 30) (L' := [some (.ref p0), some (.int p1), some (.int p2)]) (st' := [.int (-1000000002 : Int32)]) bo_176_28_f39cd0 rfl ?_
        obtain rfl := Option.some.inj h
        exact r_ret mx_176 li_176_30 rfl ro_int
      · refine r_icF mx_176 li_176_20 (by decide) hc ?_
        refine EV_stq mx_176 (pc' := 25) (L' := [some (.ref p0), some (.int p1), some (.int p2)]) (st' := [.int (3 : Int32), .int p2]) bo_176_23_31ad6f rfl ?_
        refine h_le h (fun h hc => ?_) (fun h hc => ?_)
        · refine r_icT mx_176 li_176_25 (by decide) rfl hc ?_
          refine EV_stq mx_176 (pc' := 32) (L' := [some (.ref p0), some (.int p1), some (.int p2)]) (st' := [.ref p0]) bo_176_31_c379e3 rfl ?_
          refine r_gA mx_176 li_176_32 fd_13_31 rfl h (fun a5 h => ?_)
          refine EV_stq mx_176 (pc' := 37) (L' := [some (.ref p0), some (.int p1), some (.int p2)]) (st' := [.int p2, .int p1, .ref a5]) bo_176_35_b49e7d rfl ?_
          refine h_ck h (fun hc h => ?_)
          refine h_cI h (fun v7 M6 e h => ?_)
          refine EV_call [.ref a5, .int p1, .int p2] [] mx_176 li_176_37 rfl rfl si_13_138 rfl (by decide) (by decide) (by omega) ma_175 rfl (Nat.le_of_ble_eq_true rfl) rfl rfl (Nat.le_of_ble_eq_true rfl) (rc_1 mt_at_175 rfl rfl (by decide) hc) (e_sm_changeInstances (by omega) a5 p1 p2 M2 _ e) ?_
          show EV d 176 40 [some (.ref p0), some (.int p1), some (.int p2)] [.int v7] M6 _
          obtain rfl := Option.some.inj h
          exact r_ret mx_176 li_176_40 rfl ro_int
        · refine r_icF mx_176 li_176_25 (by decide) hc ?_
          refine EV_stq mx_176 (pc' := 30) (L' := [some (.ref p0), some (.int p1), some (.int p2)]) (st' := [.int (-1000000002 : Int32)]) bo_176_28_f39cd0 rfl ?_
          obtain rfl := Option.some.inj h
          exact r_ret mx_176 li_176_30 rfl ro_int
theorem e_m_isOperator {d : Nat} (hd : 1 ≤ d) (p0 : Nat) (p1 : Int32) (M : Mem) (r : Int32 × Mem) (h : f_m_isOperator p0 p1 M = some r) : EV d 177 0 (entL 2 [.ref p0, .int p1]) [] M (some (.int r.1), r.2) := by
  show EV d 177 0 [some (.ref p0), some (.int p1)] [] M _
  unfold f_m_isOperator at h
  refine EV_stq mx_177 (pc' := 3) (L' := [some (.ref p0), some (.int p1)]) (st' := [.ref p0, .int (0 : Int32), .int p1]) bo_177_0_8b3750 rfl ?_
  refine h_ck h (fun hc h => ?_)
  refine h_cI h (fun v2 M1 e h => ?_)
  refine EV_call [.ref p0] [.int (0 : Int32), .int p1] mx_177 li_177_3 rfl rfl si_14_199 rfl (by decide) (by decide) (by omega) ma_140 rfl (Nat.le_of_ble_eq_true rfl) rfl rfl (Nat.le_of_ble_eq_true rfl) (rc_1 mt_at_140 rfl rfl (by decide) hc) (e_m_sink (by omega) p0 M _ e) ?_
  show EV d 177 6 [some (.ref p0), some (.int p1)] [.int v2, .int (0 : Int32), .int p1] M1 _
  refine h_cI h (fun v4 M3 e h => ?_)
  refine EV_call [.int p1, .int (0 : Int32), .int v2] [] mx_177 li_177_6 rfl rfl si_14_203 rfl (by decide) (by decide) (by omega) ma_29 rfl (Nat.le_of_ble_eq_true rfl) rfl rfl (Nat.le_of_ble_eq_true rfl) rfl (e_m_isIn (by omega) p1 (0 : Int32) v2 M1 _ e) ?_
  show EV d 177 9 [some (.ref p0), some (.int p1)] [.int v4] M3 _
  refine h_nrZ h (fun hn h => ?_)
  obtain rfl := Option.some.inj h
  exact r_ret mx_177 li_177_9 rfl (ro_nar (t := .boolean) (by decide) hn)
theorem e_m_rescale_146 {d : Nat} (hd : 2 ≤ d) (k89 : Nat → Int32 → Int32 → Int32 → Int32 → Mem → Option (Int32 × Mem)) (hk89 : ∀ l0 l1 l3 l4 l5 M r, k89 l0 l1 l3 l4 l5 M = some r → EV d 178 89 [some (.ref l0), some (.int l1), none, some (.int l3), some (.int l4), some (.int l5)] [] M (some (.int r.1), r.2)) (l0 : Nat) (l1 : Int32) (l3 : Int32) (l5 : Int32) (s0 : Int32) (s1 : Int32) (M : Mem) (r : Int32 × Mem) (h : f_m_rescale_146 k89 l0 l1 l3 l5 s0 s1 M = some r) : EV d 178 146 [some (.ref l0), some (.int l1), none, some (.int l3), none, some (.int l5)] [.int s0, .int s1] M (some (.int r.1), r.2) := by
  unfold f_m_rescale_146 at h
  refine EV_stq mx_178 (pc' := 89) (L' := [some (.ref l0), some (.int l1), none, some (.int l3), some (.int (s1 + s0)), some (.int (l5 + (1 : Int32)))]) (st' := []) bo_178_146_37c651 rfl ?_
  exact hk89 l0 l1 l3 (s1 + s0) (l5 + (1 : Int32)) M r h
theorem e_m_rescale_145 {d : Nat} (hd : 2 ≤ d) (k89 : Nat → Int32 → Int32 → Int32 → Int32 → Mem → Option (Int32 × Mem)) (hk89 : ∀ l0 l1 l3 l4 l5 M r, k89 l0 l1 l3 l4 l5 M = some r → EV d 178 89 [some (.ref l0), some (.int l1), none, some (.int l3), some (.int l4), some (.int l5)] [] M (some (.int r.1), r.2)) (l0 : Nat) (l1 : Int32) (l3 : Int32) (l5 : Int32) (s0 : Int32) (M : Mem) (r : Int32 × Mem) (h : f_m_rescale_145 k89 l0 l1 l3 l5 s0 M = some r) : EV d 178 145 [some (.ref l0), some (.int l1), none, some (.int l3), none, some (.int l5)] [.int s0] M (some (.int r.1), r.2) := by
  unfold f_m_rescale_145 at h
  refine EV_stq mx_178 (pc' := 146) (L' := [some (.ref l0), some (.int l1), none, some (.int l3), none, some (.int l5)]) (st' := [.int (0 : Int32), .int s0]) bo_178_145_61494d rfl ?_
  exact e_m_rescale_146 hd k89 hk89 l0 l1 l3 l5 (0 : Int32) s0 M r h
theorem e_m_rescale_89 {d : Nat} (hd : 2 ≤ d) : ∀ (n : Nat) (l0 : Nat) (l1 : Int32) (l3 : Int32) (l4 : Int32) (l5 : Int32) (M : Mem) (r : Int32 × Mem), f_m_rescale_89 n l0 l1 l3 l4 l5 M = some r → EV d 178 89 [some (.ref l0), some (.int l1), none, some (.int l3), some (.int l4), some (.int l5)] [] M (some (.int r.1), r.2) := by
  intro n
  induction n with
  | zero => intro l0 l1 l3 l4 l5 M r h; cases h
  | succ n ih =>
    intro l0 l1 l3 l4 l5 M r h
    unfold f_m_rescale_89 at h
    refine EV_stq mx_178 (pc' := 93) (L' := [some (.ref l0), some (.int l1), none, some (.int l3), some (.int l4), some (.int l5)]) (st' := [.int (16 : Int32), .int l5]) bo_178_89_580819 rfl ?_
    refine h_ge h (fun h hc => ?_) (fun h hc => ?_)
    · refine r_icT mx_178 li_178_93 (by decide) rfl hc ?_
      refine EV_stq mx_178 (pc' := 157) (L' := [some (.ref l0), some (.int l1), none, some (.int l3), some (.int l4), some (.int l5)]) (st' := [.int l4]) bo_178_155_2973a9 rfl ?_
      obtain rfl := Option.some.inj h
      exact r_ret mx_178 li_178_157 rfl ro_int
    · refine r_icF mx_178 li_178_93 (by decide) hc ?_
      refine EV_stq mx_178 (pc' := 98) (L' := [some (.ref l0), some (.int l1), none, some (.int l3), some (.int l4), some (.int l5)]) (st' := [.int l1, .ref l0]) bo_178_96_31fd26 rfl ?_
      refine h_ck h (fun hc h => ?_)
      refine h_cI h (fun v2 M1 e h => ?_)
      refine EV_call [.ref l0, .int l1] [] mx_178 li_178_98 rfl rfl si_14_281 rfl (by decide) (by decide) (by omega) ma_142 rfl (Nat.le_of_ble_eq_true rfl) rfl rfl (Nat.le_of_ble_eq_true rfl) (rc_1 mt_at_142 rfl rfl (by decide) hc) (e_m_isKeyed (by omega) l0 l1 M _ e) ?_
      show EV d 178 101 [some (.ref l0), some (.int l1), none, some (.int l3), some (.int l4), some (.int l5)] [.int v2] M1 _
      refine h_eq h (fun h hc => ?_) (fun h hc => ?_)
      · refine r_ifT mx_178 li_178_101 (by decide) rfl hc ?_
        refine EV_stq mx_178 (pc' := 157) (L' := [some (.ref l0), some (.int l1), none, some (.int l3), some (.int l4), some (.int l5)]) (st' := [.int l4]) bo_178_155_2973a9 rfl ?_
        obtain rfl := Option.some.inj h
        exact r_ret mx_178 li_178_157 rfl ro_int
      · refine r_ifF mx_178 li_178_101 (by decide) hc ?_
        refine EV_stq mx_178 (pc' := 107) (L' := [some (.ref l0), some (.int l1), none, some (.int l3), some (.int l4), some (.int l5)]) (st' := [.ref l0, .int l4]) bo_178_104_1934cb rfl ?_
        refine r_gA mx_178 li_178_107 fd_14_56 rfl h (fun a3 h => ?_)
        refine EV_stq mx_178 (pc' := 117) (L' := [some (.ref l0), some (.int l1), none, some (.int l3), some (.int l4), some (.int l5)]) (st' := [.int (((16 : Int32) * l1) + l5), .ref a3, .int l4]) bo_178_110_ca1c1f rfl ?_
        refine r_aB mx_178 li_178_117 h (fun v4 h => ?_)
        refine h_eq h (fun h hc => ?_) (fun h hc => ?_)
        · refine r_ifT mx_178 li_178_118 (by decide) rfl hc ?_
          refine EV_forget (A := [some (.ref l0), some (.int l1), none, some (.int l3), none, some (.int l5)]) (lsub_of _ _ ⟨Or.inr rfl, ⟨Or.inr rfl, ⟨Or.inl rfl, ⟨Or.inr rfl, ⟨Or.inl rfl, ⟨Or.inr rfl, trivial⟩⟩⟩⟩⟩⟩) ?_
          exact e_m_rescale_145 hd _ ih l0 l1 l3 l5 l4 M1 r h
        · refine r_ifF mx_178 li_178_118 (by decide) hc ?_
          refine EV_stq mx_178 (pc' := 125) (L' := [some (.ref l0), some (.int l1), none, some (.int l3), some (.int l4), some (.int l5)]) (st' := [.int (8 : Int32), .int l5, .int l4]) bo_178_121_9ab7c9 rfl ?_
          refine r_rm mx_178 li_178_125 h (fun v5 h => ?_)
          refine EV_stq mx_178 (pc' := 130) (L' := [some (.ref l0), some (.int l1), none, some (.int l3), some (.int l4), some (.int l5)]) (st' := [.int (8 : Int32), .int (v5 * l3), .int l4]) bo_178_126_5c1ba5 rfl ?_
          refine r_dv mx_178 li_178_130 h (fun v6 h => ?_)
          refine EV_stq mx_178 (pc' := 135) (L' := [some (.ref l0), some (.int l1), none, some (.int l3), some (.int l4), some (.int l5)]) (st' := [.int l5, .int l1, .ref l0, .int v6, .int l4]) bo_178_131_338c1e rfl ?_
          refine h_ck h (fun hc h => ?_)
          refine h_cI h (fun v8 M7 e h => ?_)
          refine EV_call [.ref l0, .int l1, .int l5] [.int v6, .int l4] mx_178 li_178_135 rfl rfl si_14_285 rfl (by decide) (by decide) (by omega) ma_143 rfl (Nat.le_of_ble_eq_true rfl) rfl rfl (Nat.le_of_ble_eq_true rfl) (rc_1 mt_at_143 rfl rfl (by decide) hc) (e_m_home (by omega) l0 l1 l5 M1 _ e) ?_
          show EV d 178 138 [some (.ref l0), some (.int l1), none, some (.int l3), some (.int l4), some (.int l5)] [.int v8, .int v6, .int l4] M7 _
          refine h_eq h (fun h hc => ?_) (fun h hc => ?_)
          · refine r_icT mx_178 li_178_138 (by decide) rfl hc ?_
            refine EV_forget (A := [some (.ref l0), some (.int l1), none, some (.int l3), none, some (.int l5)]) (lsub_of _ _ ⟨Or.inr rfl, ⟨Or.inr rfl, ⟨Or.inl rfl, ⟨Or.inr rfl, ⟨Or.inl rfl, ⟨Or.inr rfl, trivial⟩⟩⟩⟩⟩⟩) ?_
            exact e_m_rescale_145 hd _ ih l0 l1 l3 l5 l4 M7 r h
          · refine r_icF mx_178 li_178_138 (by decide) hc ?_
            refine EV_stq mx_178 (pc' := 146) (L' := [some (.ref l0), some (.int l1), none, some (.int l3), some (.int l4), some (.int l5)]) (st' := [.int (1 : Int32), .int l4]) bo_178_141_a925e9 rfl ?_
            refine EV_forget (A := [some (.ref l0), some (.int l1), none, some (.int l3), none, some (.int l5)]) (lsub_of _ _ ⟨Or.inr rfl, ⟨Or.inr rfl, ⟨Or.inl rfl, ⟨Or.inr rfl, ⟨Or.inl rfl, ⟨Or.inr rfl, trivial⟩⟩⟩⟩⟩⟩) ?_
            exact e_m_rescale_146 hd _ ih l0 l1 l3 l5 (1 : Int32) l4 M7 r h
theorem e_m_rescale_48 {d : Nat} (hd : 2 ≤ d) : ∀ (n : Nat) (l0 : Nat) (l1 : Int32) (l2 : Int32) (l3 : Int32) (l4 : Int32) (M : Mem) (r : Int32 × Mem), f_m_rescale_48 n l0 l1 l2 l3 l4 M = some r → EV d 178 48 [some (.ref l0), some (.int l1), some (.int l2), some (.int l3), some (.int l4), none] [] M (some (.int r.1), r.2) := by
  intro n
  induction n with
  | zero => intro l0 l1 l2 l3 l4 M r h; cases h
  | succ n ih =>
    intro l0 l1 l2 l3 l4 M r h
    unfold f_m_rescale_48 at h
    refine EV_stq mx_178 (pc' := 51) (L' := [some (.ref l0), some (.int l1), some (.int l2), some (.int l3), some (.int l4), none]) (st' := [.int (3 : Int32), .int l4]) bo_178_48_ef5aec rfl ?_
    refine h_ge h (fun h hc => ?_) (fun h hc => ?_)
    · refine r_icT mx_178 li_178_51 (by decide) rfl hc ?_
      refine EV_stq mx_178 (pc' := 73) (L' := [some (.ref l0), some (.int l1), some (.int l2), some (.int l3), some (.int l4), none]) (st' := [.ref l0]) bo_178_72_c0ffc8 rfl ?_
      refine r_gA mx_178 li_178_73 fd_14_22 rfl h (fun a1 h => ?_)
      refine EV_stq mx_178 (pc' := 78) (L' := [some (.ref l0), some (.int l1), some (.int l2), some (.int l3), some (.int l4), none]) (st' := [.int l2, .int l1, .ref a1]) bo_178_76_3caaf4 rfl ?_
      refine r_sI mx_178 li_178_78 h (fun M2 h => ?_)
      refine EV_stq mx_178 (pc' := 80) (L' := [some (.ref l0), some (.int l1), some (.int l2), some (.int l3), some (.int l4), none]) (st' := [.ref l0]) bo_178_79_febf86 rfl ?_
      refine h_ck h (fun hc h => ?_)
      refine h_cV h (fun M3 e h => ?_)
      refine EV_call [.ref l0] [] mx_178 li_178_80 rfl rfl si_14_265 rfl (by decide) (by decide) (by omega) ma_79 rfl (Nat.le_of_ble_eq_true rfl) rfl rfl (Nat.le_of_ble_eq_true rfl) (rc_1 mt_at_79 rfl rfl (by decide) hc) (e_m_breaks (by omega) l0 M2 _ e) ?_
      show EV d 178 83 [some (.ref l0), some (.int l1), some (.int l2), some (.int l3), some (.int l4), none] [] M3 _
      refine EV_stq mx_178 (pc' := 89) (L' := [some (.ref l0), some (.int l1), some (.int l2), some (.int l3), some (.int (0 : Int32)), some (.int (0 : Int32))]) (st' := []) bo_178_83_1ff02d rfl ?_
      refine EV_forget (A := [some (.ref l0), some (.int l1), none, some (.int l3), some (.int (0 : Int32)), some (.int (0 : Int32))]) (lsub_of _ _ ⟨Or.inr rfl, ⟨Or.inr rfl, ⟨Or.inl rfl, ⟨Or.inr rfl, ⟨Or.inr rfl, ⟨Or.inr rfl, trivial⟩⟩⟩⟩⟩⟩) ?_
      exact e_m_rescale_89 hd FU l0 l1 l3 (0 : Int32) (0 : Int32) M3 r h
    · refine r_icF mx_178 li_178_51 (by decide) hc ?_
      refine EV_stq mx_178 (pc' := 55) (L' := [some (.ref l0), some (.int l1), some (.int l2), some (.int l3), some (.int l4), none]) (st' := [.ref l0]) bo_178_54_02ca38 rfl ?_
      refine r_gA mx_178 li_178_55 fd_14_90 rfl h (fun a4 h => ?_)
      refine EV_stq mx_178 (pc' := 61) (L' := [some (.ref l0), some (.int l1), some (.int l2), some (.int l3), some (.int l4), none]) (st' := [.int l4, .int l1, .ref a4]) bo_178_58_6e952f rfl ?_
      refine h_cI h (fun v6 M5 e h => ?_)
      refine EV_call [.int l1, .int l4] [.ref a4] mx_178 li_178_61 rfl rfl si_14_288 rfl (by decide) (by decide) (by omega) ma_141 rfl (Nat.le_of_ble_eq_true rfl) rfl rfl (Nat.le_of_ble_eq_true rfl) rfl (e_m_spot (by omega) l1 l4 M _ e) ?_
      show EV d 178 64 [some (.ref l0), some (.int l1), some (.int l2), some (.int l3), some (.int l4), none] [.int v6, .ref a4] M5 _
      refine EV_stq mx_178 (pc' := 65) (L' := [some (.ref l0), some (.int l1), some (.int l2), some (.int l3), some (.int l4), none]) (st' := [.int (0 : Int32), .int v6, .ref a4]) bo_178_64_446f01 rfl ?_
      refine r_sI mx_178 li_178_65 h (fun M7 h => ?_)
      refine EV_stq mx_178 (pc' := 48) (L' := [some (.ref l0), some (.int l1), some (.int l2), some (.int l3), some (.int (l4 + (1 : Int32))), none]) (st' := []) bo_178_66_3cc17a rfl ?_
      exact ih l0 l1 l2 l3 (l4 + (1 : Int32)) M7 r h
theorem e_m_rescale {d : Nat} (hd : 2 ≤ d) (p0 : Nat) (p1 : Int32) (p2 : Int32) (M : Mem) (r : Int32 × Mem) (h : f_m_rescale p0 p1 p2 M = some r) : EV d 178 0 (entL 6 [.ref p0, .int p1, .int p2]) [] M (some (.int r.1), r.2) := by
  show EV d 178 0 [some (.ref p0), some (.int p1), some (.int p2), none, none, none] [] M _
  unfold f_m_rescale at h
  refine EV_stq mx_178 (pc' := 2) (L' := [some (.ref p0), some (.int p1), some (.int p2), none, none, none]) (st' := [.int p1, .ref p0]) bo_178_0_264884 rfl ?_
  refine h_ck h (fun hc h => ?_)
  refine h_cI h (fun v2 M1 e h => ?_)
  refine EV_call [.ref p0, .int p1] [] mx_178 li_178_2 rfl rfl si_14_377 rfl (by decide) (by decide) (by omega) ma_177 rfl (Nat.le_of_ble_eq_true rfl) rfl rfl (Nat.le_of_ble_eq_true rfl) (rc_1 mt_at_177 rfl rfl (by decide) hc) (e_m_isOperator (by omega) p0 p1 M _ e) ?_
  show EV d 178 5 [some (.ref p0), some (.int p1), some (.int p2), none, none, none] [.int v2] M1 _
  refine h_eq h (fun h hc => ?_) (fun h hc => ?_)
  · refine r_ifT mx_178 li_178_5 (by decide) rfl hc ?_
    refine EV_stq mx_178 (pc' := 15) (L' := [some (.ref p0), some (.int p1), some (.int p2), none, none, none]) (st' := [.int (-1000000001 : Int32)]) bo_178_12_d0d0c9 rfl ?_
    obtain rfl := Option.some.inj h
    exact r_ret mx_178 li_178_15 rfl ro_int
  · refine r_ifF mx_178 li_178_5 (by decide) hc ?_
    refine EV_stq mx_178 (pc' := 9) (L' := [some (.ref p0), some (.int p1), some (.int p2), none, none, none]) (st' := [.int p1]) bo_178_8_383530 rfl ?_
    refine h_ne h (fun h hc => ?_) (fun h hc => ?_)
    · refine r_ifF mx_178 li_178_9 (by decide) hc ?_
      refine EV_stq mx_178 (pc' := 15) (L' := [some (.ref p0), some (.int p1), some (.int p2), none, none, none]) (st' := [.int (-1000000001 : Int32)]) bo_178_12_d0d0c9 rfl ?_
      obtain rfl := Option.some.inj h
      exact r_ret mx_178 li_178_15 rfl ro_int
    · refine r_ifT mx_178 li_178_9 (by decide) rfl hc ?_
      refine EV_stq mx_178 (pc' := 19) (L' := [some (.ref p0), some (.int p1), some (.int p2), none, none, none]) (st' := [.int (3 : Int32), .int (1 : Int32), .int p2]) bo_178_16_91f0a1 rfl ?_
      refine h_cI h (fun v4 M3 e h => ?_)
      refine EV_call [.int p2, .int (1 : Int32), .int (3 : Int32)] [] mx_178 li_178_19 rfl rfl si_14_203 rfl (by decide) (by decide) (by omega) ma_29 rfl (Nat.le_of_ble_eq_true rfl) rfl rfl (Nat.le_of_ble_eq_true rfl) rfl (e_m_isIn (by omega) p2 (1 : Int32) (3 : Int32) M1 _ e) ?_
      show EV d 178 22 [some (.ref p0), some (.int p1), some (.int p2), none, none, none] [.int v4] M3 _
      refine h_ne h (fun h hc => ?_) (fun h hc => ?_)
      · refine r_ifF mx_178 li_178_22 (by decide) hc ?_
        refine EV_stq mx_178 (pc' := 27) (L' := [some (.ref p0), some (.int p1), some (.int p2), none, none, none]) (st' := [.int (-1000000002 : Int32)]) bo_178_25_1858f6 rfl ?_
        obtain rfl := Option.some.inj h
        exact r_ret mx_178 li_178_27 rfl ro_int
      · refine r_ifT mx_178 li_178_22 (by decide) rfl hc ?_
        refine EV_stq mx_178 (pc' := 30) (L' := [some (.ref p0), some (.int p1), some (.int p2), none, none, none]) (st' := [.ref p0, .ref p0]) bo_178_28_533662 rfl ?_
        refine r_gI mx_178 li_178_30 fd_14_256 ⟨by decide, by decide⟩ h (fun v5 h => ?_)
        refine EV_stq mx_178 (pc' := 35) (L' := [some (.ref p0), some (.int p1), some (.int p2), none, none, none]) (st' := [.int (v5 + (1 : Int32)), .ref p0]) bo_178_33_9ed66c rfl ?_
        refine r_pI mx_178 li_178_35 fd_14_256 (Or.inl rfl) rfl h (fun M6 h => ?_)
        refine EV_stq mx_178 (pc' := 39) (L' := [some (.ref p0), some (.int p1), some (.int p2), none, none, none]) (st' := [.ref p0]) bo_178_38_c8c763 rfl ?_
        refine r_gA mx_178 li_178_39 fd_14_22 rfl h (fun a7 h => ?_)
        refine EV_stq mx_178 (pc' := 43) (L' := [some (.ref p0), some (.int p1), some (.int p2), none, none, none]) (st' := [.int p1, .ref a7]) bo_178_42_b358e7 rfl ?_
        refine r_aI mx_178 li_178_43 h (fun v8 h => ?_)
        refine EV_stq mx_178 (pc' := 48) (L' := [some (.ref p0), some (.int p1), some (.int p2), some (.int v8), some (.int (0 : Int32)), none]) (st' := []) bo_178_44_d9f6f2 rfl ?_
        exact e_m_rescale_48 hd FU p0 p1 p2 v8 (0 : Int32) M6 r h
theorem e_sm_recordsInChannels_41 {d : Nat} (hd : 0 ≤ d) (k13 : Int32 → Nat → Int32 → Int32 → Mem → Option (Int32 × Mem)) (hk13 : ∀ l1 l2 l3 l4 M r, k13 l1 l2 l3 l4 M = some r → EV d 179 13 [none, some (.int l1), some (.ref l2), some (.int l3), some (.int l4), none] [] M (some (.int r.1), r.2)) (l1 : Int32) (l2 : Nat) (l3 : Int32) (l4 : Int32) (M : Mem) (r : Int32 × Mem) (h : f_sm_recordsInChannels_41 k13 l1 l2 l3 l4 M = some r) : EV d 179 41 [none, some (.int l1), some (.ref l2), some (.int l3), some (.int l4), none] [] M (some (.int r.1), r.2) := by
  unfold f_sm_recordsInChannels_41 at h
  refine EV_stq mx_179 (pc' := 13) (L' := [none, some (.int l1), some (.ref l2), some (.int l3), some (.int (l4 + (1 : Int32))), none]) (st' := []) bo_179_41_8598b5 rfl ?_
  exact hk13 l1 l2 l3 (l4 + (1 : Int32)) M r h
theorem e_sm_recordsInChannels_13 {d : Nat} (hd : 0 ≤ d) : ∀ (n : Nat) (l1 : Int32) (l2 : Nat) (l3 : Int32) (l4 : Int32) (M : Mem) (r : Int32 × Mem), f_sm_recordsInChannels_13 n l1 l2 l3 l4 M = some r → EV d 179 13 [none, some (.int l1), some (.ref l2), some (.int l3), some (.int l4), none] [] M (some (.int r.1), r.2) := by
  intro n
  induction n with
  | zero => intro l1 l2 l3 l4 M r h; cases h
  | succ n ih =>
    intro l1 l2 l3 l4 M r h
    unfold f_sm_recordsInChannels_13 at h
    refine EV_stq mx_179 (pc' := 16) (L' := [none, some (.int l1), some (.ref l2), some (.int l3), some (.int l4), none]) (st' := [.int l3, .int l4]) bo_179_13_839647 rfl ?_
    refine h_ge h (fun h hc => ?_) (fun h hc => ?_)
    · refine r_icT mx_179 li_179_16 (by decide) rfl hc ?_
      refine EV_stq mx_179 (pc' := 48) (L' := [none, some (.int l1), some (.ref l2), some (.int l3), some (.int l4), none]) (st' := [.int l1]) bo_179_47_d7fa8e rfl ?_
      obtain rfl := Option.some.inj h
      exact r_ret mx_179 li_179_48 rfl ro_int
    · refine r_icF mx_179 li_179_16 (by decide) hc ?_
      refine EV_stq mx_179 (pc' := 22) (L' := [none, some (.int l1), some (.ref l2), some (.int l3), some (.int l4), none]) (st' := [.int l4, .ref l2]) bo_179_19_643a70 rfl ?_
      refine r_aA mx_179 li_179_22 h (fun a1 h => ?_)
      refine EV_stq mx_179 (pc' := 33) (L' := [none, some (.int l1), some (.ref l2), some (.int l3), some (.int l4), some (.ref a1)]) (st' := [.ref a1, .int l1]) bo_179_23_a829ca rfl ?_
      refine r_gA mx_179 li_179_33 fd_10_165 rfl h (fun a2 h => ?_)
      refine r_gI mx_179 li_179_36 fd_10_156 ⟨by decide, by decide⟩ h (fun v3 h => ?_)
      refine EV_stq mx_179 (pc' := 41) (L' := [none, some (.int (l1 + v3)), some (.ref l2), some (.int l3), some (.int l4), some (.ref a1)]) (st' := []) bo_179_39_9c41c6 rfl ?_
      refine EV_forget (A := [none, some (.int (l1 + v3)), some (.ref l2), some (.int l3), some (.int l4), none]) (lsub_of _ _ ⟨Or.inl rfl, ⟨Or.inr rfl, ⟨Or.inr rfl, ⟨Or.inr rfl, ⟨Or.inr rfl, ⟨Or.inl rfl, trivial⟩⟩⟩⟩⟩⟩) ?_
      exact e_sm_recordsInChannels_41 hd _ ih (l1 + v3) l2 l3 l4 M r h
theorem e_sm_recordsInChannels {d : Nat} (hd : 0 ≤ d) (p0 : Nat) (M : Mem) (r : Int32 × Mem) (h : f_sm_recordsInChannels p0 M = some r) : EV d 179 0 (entL 6 [.ref p0]) [] M (some (.int r.1), r.2) := by
  show EV d 179 0 [some (.ref p0), none, none, none, none, none] [] M _
  unfold f_sm_recordsInChannels at h
  refine EV_stq mx_179 (pc' := 3) (L' := [some (.ref p0), some (.int (0 : Int32)), none, none, none, none]) (st' := [.ref p0]) bo_179_0_8b3750 rfl ?_
  refine r_gA mx_179 li_179_3 fd_10_35 rfl h (fun a1 h => ?_)
  refine EV_stq mx_179 (pc' := 8) (L' := [some (.ref p0), some (.int (0 : Int32)), some (.ref a1), none, none, none]) (st' := [.ref a1]) bo_179_6_e618ed rfl ?_
  refine r_aN mx_179 li_179_8 h (fun v2 h => ?_)
  refine EV_stq mx_179 (pc' := 13) (L' := [some (.ref p0), some (.int (0 : Int32)), some (.ref a1), some (.int v2), some (.int (0 : Int32)), none]) (st' := []) bo_179_9_94b225 rfl ?_
  refine EV_forget (A := [none, some (.int (0 : Int32)), some (.ref a1), some (.int v2), some (.int (0 : Int32)), none]) (lsub_of _ _ ⟨Or.inl rfl, ⟨Or.inr rfl, ⟨Or.inr rfl, ⟨Or.inr rfl, ⟨Or.inr rfl, ⟨Or.inl rfl, trivial⟩⟩⟩⟩⟩⟩) ?_
  exact e_sm_recordsInChannels_13 hd FU (0 : Int32) a1 v2 (0 : Int32) M r h
theorem e_sm_recordsInSink_15 {d : Nat} (hd : 1 ≤ d) : ∀ (n : Nat) (l1 : Option Nat) (l2 : Int32) (l3 : Int32) (M : Mem) (r : Int32 × Mem), f_sm_recordsInSink_15 n l1 l2 l3 M = some r → EV d 180 15 [none, some (rfv l1), some (.int l2), some (.int l3)] [] M (some (.int r.1), r.2) := by
  intro n
  induction n with
  | zero => intro l1 l2 l3 M r h; cases h
  | succ n ih =>
    intro l1 l2 l3 M r h
    unfold f_sm_recordsInSink_15 at h
    refine h_onR (G := fun o => EV d 180 15 [none, some (rfv o), some (.int l2), some (.int l3)] [] M _) h (fun h => ?_) (fun a1 h => ?_)
    · refine EV_stq mx_180 (pc' := 18) (L' := [none, some (.null), some (.int l2), some (.int l3)]) (st' := [.int (16 : Int32), .int l3]) bo_180_15_d45c32 rfl ?_
      refine h_ge h (fun h hc => ?_) (fun h hc => ?_)
      · refine r_icT mx_180 li_180_18 (by decide) rfl hc ?_
        refine EV_stq mx_180 (pc' := 43) (L' := [none, some (.null), some (.int l2), some (.int l3)]) (st' := [.int l2]) bo_180_42_b358e7 rfl ?_
        obtain rfl := Option.some.inj h
        exact r_ret mx_180 li_180_43 rfl ro_int
      · refine r_icF mx_180 li_180_18 (by decide) hc ?_
        refine EV_stq mx_180 (pc' := 43) (L' := [none, some (.null), some (.int l2), some (.int l3)]) (st' := [.int l2]) bo_180_21_651ecd rfl ?_
        obtain rfl := Option.some.inj h
        exact r_ret mx_180 li_180_43 rfl ro_int
    · refine EV_stq mx_180 (pc' := 18) (L' := [none, some (.ref a1), some (.int l2), some (.int l3)]) (st' := [.int (16 : Int32), .int l3]) bo_180_15_d45c32 rfl ?_
      refine h_ge h (fun h hc => ?_) (fun h hc => ?_)
      · refine r_icT mx_180 li_180_18 (by decide) rfl hc ?_
        refine EV_stq mx_180 (pc' := 43) (L' := [none, some (.ref a1), some (.int l2), some (.int l3)]) (st' := [.int l2]) bo_180_42_b358e7 rfl ?_
        obtain rfl := Option.some.inj h
        exact r_ret mx_180 li_180_43 rfl ro_int
      · refine r_icF mx_180 li_180_18 (by decide) hc ?_
        refine EV_stq mx_180 (pc' := 27) (L' := [none, some (.ref a1), some (.int l2), some (.int l3)]) (st' := [.ref a1, .int l2]) bo_180_21_0a1f26 rfl ?_
        refine r_gA mx_180 li_180_27 fd_10_171 rfl h (fun a2 h => ?_)
        refine EV_stq mx_180 (pc' := 31) (L' := [none, some (.ref a1), some (.int l2), some (.int l3)]) (st' := [.int l3, .ref a2, .int l2]) bo_180_30_0b4e4a rfl ?_
        refine h_ck h (fun hc h => ?_)
        refine h_cI h (fun v4 M3 e h => ?_)
        refine EV_call [.ref a2, .int l3] [.int l2] mx_180 li_180_31 rfl rfl si_10_175 rfl (by decide) (by decide) (by omega) ma_126 rfl (Nat.le_of_ble_eq_true rfl) rfl rfl (Nat.le_of_ble_eq_true rfl) (rc_1 mt_at_126 rfl rfl (by decide) hc) (e_ky_secondOf (by omega) a2 l3 M _ e) ?_
        show EV d 180 34 [none, some (.ref a1), some (.int l2), some (.int l3)] [.int v4, .int l2] M3 _
        refine EV_stq mx_180 (pc' := 15) (L' := [none, some (.ref a1), some (.int (l2 + v4)), some (.int (l3 + (1 : Int32)))]) (st' := []) bo_180_34_ef95d3 rfl ?_
        exact ih (some a1) (l2 + v4) (l3 + (1 : Int32)) M3 r h
theorem e_sm_recordsInSink {d : Nat} (hd : 1 ≤ d) (p0 : Nat) (M : Mem) (r : Int32 × Mem) (h : f_sm_recordsInSink p0 M = some r) : EV d 180 0 (entL 4 [.ref p0]) [] M (some (.int r.1), r.2) := by
  show EV d 180 0 [some (.ref p0), none, none, none] [] M _
  unfold f_sm_recordsInSink at h
  refine EV_stq mx_180 (pc' := 2) (L' := [some (.ref p0), none, none, none]) (st' := [.ref p0, .ref p0]) bo_180_0_264884 rfl ?_
  refine r_gI mx_180 li_180_2 fd_10_50 ⟨by decide, by decide⟩ h (fun v1 h => ?_)
  refine EV_stq mx_180 (pc' := 7) (L' := [some (.ref p0), none, none, none]) (st' := [.int (v1 + (1 : Int32)), .ref p0]) bo_180_5_ca77c4 rfl ?_
  refine h_ck h (fun hc h => ?_)
  refine h_cR h (fun o3 M2 e h => ?_)
  refine EV_call [.ref p0, .int (v1 + (1 : Int32))] [] mx_180 li_180_7 rfl rfl si_10_54 rfl (by decide) (by decide) (by omega) ma_56 rfl (Nat.le_of_ble_eq_true rfl) rfl rfl (Nat.le_of_ble_eq_true rfl) (rc_1 mt_at_56 rfl rfl (by decide) hc) (e_sm_operatorAt (by omega) p0 (v1 + (1 : Int32)) M _ e) ?_
  refine h_onR (G := fun o => EV d 180 10 [some (.ref p0), none, none, none] [rfv o] M2 _) h (fun h => ?_) (fun a4 h => ?_)
  · refine EV_stq mx_180 (pc' := 15) (L' := [some (.ref p0), some (.null), some (.int (0 : Int32)), some (.int (0 : Int32))]) (st' := []) bo_180_10_326e4c rfl ?_
    refine EV_forget (A := [none, some (.null), some (.int (0 : Int32)), some (.int (0 : Int32))]) (lsub_of _ _ ⟨Or.inl rfl, ⟨Or.inr rfl, ⟨Or.inr rfl, ⟨Or.inr rfl, trivial⟩⟩⟩⟩) ?_
    exact e_sm_recordsInSink_15 hd FU none (0 : Int32) (0 : Int32) M2 r h
  · refine EV_stq mx_180 (pc' := 15) (L' := [some (.ref p0), some (.ref a4), some (.int (0 : Int32)), some (.int (0 : Int32))]) (st' := []) bo_180_10_326e4c rfl ?_
    refine EV_forget (A := [none, some (.ref a4), some (.int (0 : Int32)), some (.int (0 : Int32))]) (lsub_of _ _ ⟨Or.inl rfl, ⟨Or.inr rfl, ⟨Or.inr rfl, ⟨Or.inr rfl, trivial⟩⟩⟩⟩) ?_
    exact e_sm_recordsInSink_15 hd FU (some a4) (0 : Int32) (0 : Int32) M2 r h
theorem e_x_count {d : Nat} (hd : 3 ≤ d) (p0 : Nat) (p1 : Int32) (M : Mem) (r : Int32 × Mem) (h : f_x_count p0 p1 M = some r) : EV d 181 0 (entL 2 [.ref p0, .int p1]) [] M (some (.int r.1), r.2) := by
  show EV d 181 0 [some (.ref p0), some (.int p1)] [] M _
  unfold f_x_count at h
  refine EV_stq mx_181 (pc' := 1) (L' := [some (.ref p0), some (.int p1)]) (st' := [.int p1]) bo_181_0_8d5162 rfl ?_
  refine h_sw h (fun hh e0 => ?_) (fun h e0 => ?_)
  · clear h
    subst e0
    have h := hh
    clear hh
    refine r_tsI (off := 55) mx_181 li_181_1 (by decide +kernel) (by decide +kernel) (by decide) rfl ?_
    refine EV_stq mx_181 (pc' := 57) (L' := [some (.ref p0), some (.int (0 : Int32))]) (st' := [.ref p0]) bo_181_56_350148 rfl ?_
    refine r_gA mx_181 li_181_57 fd_13_31 rfl h (fun a1 h => ?_)
    refine r_gI mx_181 li_181_60 fd_13_80 ⟨by decide, by decide⟩ h (fun v2 h => ?_)
    refine EV_stq mx_181 (pc' := 65) (L' := [some (.ref p0), some (.int (0 : Int32))]) (st' := [.int (v2 + (2 : Int32))]) bo_181_63_92b333 rfl ?_
    obtain rfl := Option.some.inj h
    exact r_ret mx_181 li_181_65 rfl ro_int
  refine h_sw h (fun hh e1 => ?_) (fun h e1 => ?_)
  · clear h
    subst e1
    have h := hh
    clear hh
    refine r_tsI (off := 65) mx_181 li_181_1 (by decide +kernel) (by decide +kernel) (by decide) rfl ?_
    refine EV_stq mx_181 (pc' := 67) (L' := [some (.ref p0), some (.int (1 : Int32))]) (st' := [.ref p0]) bo_181_66_831ba3 rfl ?_
    refine r_gA mx_181 li_181_67 fd_13_31 rfl h (fun a3 h => ?_)
    refine r_gA mx_181 li_181_70 fd_13_101 rfl h (fun a4 h => ?_)
    refine r_gI mx_181 li_181_73 fd_13_105 ⟨by decide, by decide⟩ h (fun v5 h => ?_)
    obtain rfl := Option.some.inj h
    exact r_ret mx_181 li_181_76 rfl ro_int
  refine h_sw h (fun hh e2 => ?_) (fun h e2 => ?_)
  · clear h
    subst e2
    have h := hh
    clear hh
    refine r_tsI (off := 76) mx_181 li_181_1 (by decide +kernel) (by decide +kernel) (by decide) rfl ?_
    refine EV_stq mx_181 (pc' := 78) (L' := [some (.ref p0), some (.int (2 : Int32))]) (st' := [.ref p0]) bo_181_77_9a98ff rfl ?_
    refine r_gA mx_181 li_181_78 fd_13_31 rfl h (fun a6 h => ?_)
    refine r_gI mx_181 li_181_81 fd_13_142 ⟨by decide, by decide⟩ h (fun v7 h => ?_)
    obtain rfl := Option.some.inj h
    exact r_ret mx_181 li_181_84 rfl ro_int
  refine h_sw h (fun hh e3 => ?_) (fun h e3 => ?_)
  · clear h
    subst e3
    have h := hh
    clear hh
    refine r_tsI (off := 84) mx_181 li_181_1 (by decide +kernel) (by decide +kernel) (by decide) rfl ?_
    refine EV_stq mx_181 (pc' := 86) (L' := [some (.ref p0), some (.int (3 : Int32))]) (st' := [.ref p0]) bo_181_85_4765e0 rfl ?_
    refine r_gA mx_181 li_181_86 fd_13_31 rfl h (fun a8 h => ?_)
    refine r_gI mx_181 li_181_89 fd_13_145 ⟨by decide, by decide⟩ h (fun v9 h => ?_)
    obtain rfl := Option.some.inj h
    exact r_ret mx_181 li_181_92 rfl ro_int
  refine h_sw h (fun hh e4 => ?_) (fun h e4 => ?_)
  · clear h
    subst e4
    have h := hh
    clear hh
    refine r_tsI (off := 92) mx_181 li_181_1 (by decide +kernel) (by decide +kernel) (by decide) rfl ?_
    refine EV_stq mx_181 (pc' := 94) (L' := [some (.ref p0), some (.int (4 : Int32))]) (st' := [.ref p0]) bo_181_93_7021a1 rfl ?_
    refine r_gA mx_181 li_181_94 fd_13_31 rfl h (fun a10 h => ?_)
    refine r_gI mx_181 li_181_97 fd_13_130 ⟨by decide, by decide⟩ h (fun v11 h => ?_)
    obtain rfl := Option.some.inj h
    exact r_ret mx_181 li_181_100 rfl ro_int
  refine h_sw h (fun hh e5 => ?_) (fun h e5 => ?_)
  · clear h
    subst e5
    have h := hh
    clear hh
    refine r_tsI (off := 100) mx_181 li_181_1 (by decide +kernel) (by decide +kernel) (by decide) rfl ?_
    refine EV_stq mx_181 (pc' := 102) (L' := [some (.ref p0), some (.int (5 : Int32))]) (st' := [.ref p0]) bo_181_101_9e3292 rfl ?_
    refine r_gA mx_181 li_181_102 fd_13_31 rfl h (fun a12 h => ?_)
    refine r_gI mx_181 li_181_105 fd_13_120 ⟨by decide, by decide⟩ h (fun v13 h => ?_)
    obtain rfl := Option.some.inj h
    exact r_ret mx_181 li_181_108 rfl ro_int
  refine h_sw h (fun hh e6 => ?_) (fun h e6 => ?_)
  · clear h
    subst e6
    have h := hh
    clear hh
    refine r_tsI (off := 108) mx_181 li_181_1 (by decide +kernel) (by decide +kernel) (by decide) rfl ?_
    refine EV_stq mx_181 (pc' := 110) (L' := [some (.ref p0), some (.int (6 : Int32))]) (st' := [.ref p0]) bo_181_109_9ce450 rfl ?_
    refine r_gA mx_181 li_181_110 fd_13_31 rfl h (fun a14 h => ?_)
    refine r_gI mx_181 li_181_113 fd_13_148 ⟨by decide, by decide⟩ h (fun v15 h => ?_)
    obtain rfl := Option.some.inj h
    exact r_ret mx_181 li_181_116 rfl ro_int
  refine h_sw h (fun hh e7 => ?_) (fun h e7 => ?_)
  · clear h
    subst e7
    have h := hh
    clear hh
    refine r_tsI (off := 116) mx_181 li_181_1 (by decide +kernel) (by decide +kernel) (by decide) rfl ?_
    refine EV_stq mx_181 (pc' := 118) (L' := [some (.ref p0), some (.int (7 : Int32))]) (st' := [.ref p0]) bo_181_117_f55cfa rfl ?_
    refine r_gA mx_181 li_181_118 fd_13_31 rfl h (fun a16 h => ?_)
    refine h_ck h (fun hc h => ?_)
    refine h_cI h (fun v18 M17 e h => ?_)
    refine EV_call [.ref a16] [] mx_181 li_181_121 rfl rfl si_13_151 rfl (by decide) (by decide) (by omega) ma_179 rfl (Nat.le_of_ble_eq_true rfl) rfl rfl (Nat.le_of_ble_eq_true rfl) (rc_1 mt_at_179 rfl rfl (by decide) hc) (e_sm_recordsInChannels (by omega) a16 M _ e) ?_
    show EV d 181 124 [some (.ref p0), some (.int (7 : Int32))] [.int v18] M17 _
    obtain rfl := Option.some.inj h
    exact r_ret mx_181 li_181_124 rfl ro_int
  refine h_sw h (fun hh e8 => ?_) (fun h e8 => ?_)
  · clear h
    subst e8
    have h := hh
    clear hh
    refine r_tsI (off := 124) mx_181 li_181_1 (by decide +kernel) (by decide +kernel) (by decide) rfl ?_
    refine EV_stq mx_181 (pc' := 126) (L' := [some (.ref p0), some (.int (8 : Int32))]) (st' := [.ref p0]) bo_181_125_bc72fa rfl ?_
    refine r_gA mx_181 li_181_126 fd_13_31 rfl h (fun a19 h => ?_)
    refine h_ck h (fun hc h => ?_)
    refine h_cI h (fun v21 M20 e h => ?_)
    refine EV_call [.ref a19] [] mx_181 li_181_129 rfl rfl si_13_154 rfl (by decide) (by decide) (by omega) ma_92 rfl (Nat.le_of_ble_eq_true rfl) rfl rfl (Nat.le_of_ble_eq_true rfl) (rc_1 mt_at_92 rfl rfl (by decide) hc) (e_sm_recordsInLists (by omega) a19 M _ e) ?_
    show EV d 181 132 [some (.ref p0), some (.int (8 : Int32))] [.int v21] M20 _
    obtain rfl := Option.some.inj h
    exact r_ret mx_181 li_181_132 rfl ro_int
  refine h_sw h (fun hh e9 => ?_) (fun h e9 => ?_)
  · clear h
    subst e9
    have h := hh
    clear hh
    refine r_tsI (off := 132) mx_181 li_181_1 (by decide +kernel) (by decide +kernel) (by decide) rfl ?_
    refine EV_stq mx_181 (pc' := 134) (L' := [some (.ref p0), some (.int (9 : Int32))]) (st' := [.ref p0]) bo_181_133_fe448f rfl ?_
    refine r_gA mx_181 li_181_134 fd_13_31 rfl h (fun a22 h => ?_)
    refine h_ck h (fun hc h => ?_)
    refine h_cI h (fun v24 M23 e h => ?_)
    refine EV_call [.ref a22] [] mx_181 li_181_137 rfl rfl si_13_157 rfl (by decide) (by decide) (by omega) ma_180 rfl (Nat.le_of_ble_eq_true rfl) rfl rfl (Nat.le_of_ble_eq_true rfl) (rc_1 mt_at_180 rfl rfl (by decide) hc) (e_sm_recordsInSink (by omega) a22 M _ e) ?_
    show EV d 181 140 [some (.ref p0), some (.int (9 : Int32))] [.int v24] M23 _
    obtain rfl := Option.some.inj h
    exact r_ret mx_181 li_181_140 rfl ro_int
  refine r_tsD mx_181 li_181_1 (by have n0 := lv_neT e0 (a := 0) (by decide); have n1 := lv_neT e1 (a := 1) (by decide); have n2 := lv_neT e2 (a := 2) (by decide); have n3 := lv_neT e3 (a := 3) (by decide); have n4 := lv_neT e4 (a := 4) (by decide); have n5 := lv_neT e5 (a := 5) (by decide); have n6 := lv_neT e6 (a := 6) (by decide); have n7 := lv_neT e7 (a := 7) (by decide); have n8 := lv_neT e8 (a := 8) (by decide); have n9 := lv_neT e9 (a := 9) (by decide); omega) (by decide) rfl ?_
  refine EV_stq mx_181 (pc' := 143) (L' := [some (.ref p0), some (.int p1)]) (st' := [.int (-1000000002 : Int32)]) bo_181_141_b0c808 rfl ?_
  obtain rfl := Option.some.inj h
  exact r_ret mx_181 li_181_143 rfl ro_int
theorem e_m_inside_54 {d : Nat} (hd : 0 ≤ d) (k16 : Nat → Int32 → Int32 → Int32 → Mem → Option (Int32 × Mem)) (hk16 : ∀ l0 l1 l2 l3 M r, k16 l0 l1 l2 l3 M = some r → EV d 182 16 [some (.ref l0), some (.int l1), some (.int l2), some (.int l3)] [] M (some (.int r.1), r.2)) (l0 : Nat) (l1 : Int32) (l3 : Int32) (s0 : Int32) (s1 : Int32) (M : Mem) (r : Int32 × Mem) (h : f_m_inside_54 k16 l0 l1 l3 s0 s1 M = some r) : EV d 182 54 [some (.ref l0), some (.int l1), none, some (.int l3)] [.int s0, .int s1] M (some (.int r.1), r.2) := by
  unfold f_m_inside_54 at h
  refine EV_stq mx_182 (pc' := 16) (L' := [some (.ref l0), some (.int l1), some (.int (s1 + s0)), some (.int (l3 + (1 : Int32)))]) (st' := []) bo_182_54_b69876 rfl ?_
  exact hk16 l0 l1 (s1 + s0) (l3 + (1 : Int32)) M r h
theorem e_m_inside_16 {d : Nat} (hd : 0 ≤ d) : ∀ (n : Nat) (l0 : Nat) (l1 : Int32) (l2 : Int32) (l3 : Int32) (M : Mem) (r : Int32 × Mem), f_m_inside_16 n l0 l1 l2 l3 M = some r → EV d 182 16 [some (.ref l0), some (.int l1), some (.int l2), some (.int l3)] [] M (some (.int r.1), r.2) := by
  intro n
  induction n with
  | zero => intro l0 l1 l2 l3 M r h; cases h
  | succ n ih =>
    intro l0 l1 l2 l3 M r h
    unfold f_m_inside_16 at h
    refine EV_stq mx_182 (pc' := 18) (L' := [some (.ref l0), some (.int l1), some (.int l2), some (.int l3)]) (st' := [.ref l0, .int l3]) bo_182_16_f4f9fa rfl ?_
    refine r_gA mx_182 li_182_18 fd_14_129 rfl h (fun a1 h => ?_)
    refine EV_stq mx_182 (pc' := 22) (L' := [some (.ref l0), some (.int l1), some (.int l2), some (.int l3)]) (st' := [.int l1, .ref a1, .int l3]) bo_182_21_46c79c rfl ?_
    refine r_aI mx_182 li_182_22 h (fun v2 h => ?_)
    refine h_ge h (fun h hc => ?_) (fun h hc => ?_)
    · refine r_icT mx_182 li_182_23 (by decide) rfl hc ?_
      refine EV_stq mx_182 (pc' := 63) (L' := [some (.ref l0), some (.int l1), some (.int l2), some (.int l3)]) (st' := [.int l2]) bo_182_62_13a257 rfl ?_
      obtain rfl := Option.some.inj h
      exact r_ret mx_182 li_182_63 rfl ro_int
    · refine r_icF mx_182 li_182_23 (by decide) hc ?_
      refine EV_stq mx_182 (pc' := 28) (L' := [some (.ref l0), some (.int l1), some (.int l2), some (.int l3)]) (st' := [.ref l0, .int l2]) bo_182_26_539da0 rfl ?_
      refine r_gA mx_182 li_182_28 fd_14_135 rfl h (fun a3 h => ?_)
      refine EV_stq mx_182 (pc' := 36) (L' := [some (.ref l0), some (.int l1), some (.int l2), some (.int l3)]) (st' := [.int (((4 : Int32) * l1) + l3), .ref a3, .int l2]) bo_182_31_545581 rfl ?_
      refine r_aI mx_182 li_182_36 h (fun v4 h => ?_)
      refine h_le h (fun h hc => ?_) (fun h hc => ?_)
      · refine r_ifT mx_182 li_182_37 (by decide) rfl hc ?_
        refine EV_stq mx_182 (pc' := 54) (L' := [some (.ref l0), some (.int l1), some (.int l2), some (.int l3)]) (st' := [.int (0 : Int32), .int l2]) bo_182_53_a422c0 rfl ?_
        refine EV_forget (A := [some (.ref l0), some (.int l1), none, some (.int l3)]) (lsub_of _ _ ⟨Or.inr rfl, ⟨Or.inr rfl, ⟨Or.inl rfl, ⟨Or.inr rfl, trivial⟩⟩⟩⟩) ?_
        exact e_m_inside_54 hd _ ih l0 l1 l3 (0 : Int32) l2 M r h
      · refine r_ifF mx_182 li_182_37 (by decide) hc ?_
        refine EV_stq mx_182 (pc' := 41) (L' := [some (.ref l0), some (.int l1), some (.int l2), some (.int l3)]) (st' := [.ref l0, .int l2]) bo_182_40_d0cc5b rfl ?_
        refine r_gA mx_182 li_182_41 fd_14_135 rfl h (fun a5 h => ?_)
        refine EV_stq mx_182 (pc' := 49) (L' := [some (.ref l0), some (.int l1), some (.int l2), some (.int l3)]) (st' := [.int (((4 : Int32) * l1) + l3), .ref a5, .int l2]) bo_182_44_d467af rfl ?_
        refine r_aI mx_182 li_182_49 h (fun v6 h => ?_)
        refine EV_stq mx_182 (pc' := 54) (L' := [some (.ref l0), some (.int l1), some (.int l2), some (.int l3)]) (st' := [.int v6, .int l2]) bo_182_50_8a8783 rfl ?_
        refine EV_forget (A := [some (.ref l0), some (.int l1), none, some (.int l3)]) (lsub_of _ _ ⟨Or.inr rfl, ⟨Or.inr rfl, ⟨Or.inl rfl, ⟨Or.inr rfl, trivial⟩⟩⟩⟩) ?_
        exact e_m_inside_54 hd _ ih l0 l1 l3 v6 l2 M r h
theorem e_m_inside {d : Nat} (hd : 0 ≤ d) (p0 : Nat) (p1 : Int32) (M : Mem) (r : Int32 × Mem) (h : f_m_inside p0 p1 M = some r) : EV d 182 0 (entL 4 [.ref p0, .int p1]) [] M (some (.int r.1), r.2) := by
  show EV d 182 0 [some (.ref p0), some (.int p1), none, none] [] M _
  unfold f_m_inside at h
  refine EV_stq mx_182 (pc' := 1) (L' := [some (.ref p0), some (.int p1), none, none]) (st' := [.ref p0]) bo_182_0_8d5162 rfl ?_
  refine r_gA mx_182 li_182_1 fd_14_114 rfl h (fun a1 h => ?_)
  refine EV_stq mx_182 (pc' := 5) (L' := [some (.ref p0), some (.int p1), none, none]) (st' := [.int p1, .ref a1]) bo_182_4_e962e2 rfl ?_
  refine r_aI mx_182 li_182_5 h (fun v2 h => ?_)
  refine EV_stq mx_182 (pc' := 7) (L' := [some (.ref p0), some (.int p1), none, none]) (st' := [.ref p0, .int v2]) bo_182_6_907e54 rfl ?_
  refine r_gA mx_182 li_182_7 fd_14_132 rfl h (fun a3 h => ?_)
  refine EV_stq mx_182 (pc' := 11) (L' := [some (.ref p0), some (.int p1), none, none]) (st' := [.int p1, .ref a3, .int v2]) bo_182_10_2a30f5 rfl ?_
  refine r_aI mx_182 li_182_11 h (fun v4 h => ?_)
  refine EV_stq mx_182 (pc' := 16) (L' := [some (.ref p0), some (.int p1), some (.int (v2 - v4)), some (.int (0 : Int32))]) (st' := []) bo_182_12_011d94 rfl ?_
  exact e_m_inside_16 hd FU p0 p1 (v2 - v4) (0 : Int32) M r h
theorem e_m_count_107 {d : Nat} (hd : 1 ≤ d) : ∀ (n : Nat) (l0 : Nat) (l2 : Int32) (l3 : Int32) (M : Mem) (r : Int32 × Mem), f_m_count_107 n l0 l2 l3 M = some r → EV d 183 107 [some (.ref l0), none, some (.int l2), some (.int l3)] [] M (some (.int r.1), r.2) := by
  intro n
  induction n with
  | zero => intro l0 l2 l3 M r h; cases h
  | succ n ih =>
    intro l0 l2 l3 M r h
    unfold f_m_count_107 at h
    refine EV_stq mx_183 (pc' := 110) (L' := [some (.ref l0), none, some (.int l2), some (.int l3)]) (st' := [.int (54 : Int32), .int l3]) bo_183_107_68dab3 rfl ?_
    refine h_ge h (fun h hc => ?_) (fun h hc => ?_)
    · refine r_icT mx_183 li_183_110 (by decide) rfl hc ?_
      refine EV_stq mx_183 (pc' := 128) (L' := [some (.ref l0), none, some (.int l2), some (.int l3)]) (st' := [.int l2]) bo_183_127_244a0d rfl ?_
      obtain rfl := Option.some.inj h
      exact r_ret mx_183 li_183_128 rfl ro_int
    · refine r_icF mx_183 li_183_110 (by decide) hc ?_
      refine EV_stq mx_183 (pc' := 116) (L' := [some (.ref l0), none, some (.int l2), some (.int l3)]) (st' := [.int l3, .ref l0, .int l2]) bo_183_113_0feca2 rfl ?_
      refine h_ck h (fun hc h => ?_)
      refine h_cI h (fun v2 M1 e h => ?_)
      refine EV_call [.ref l0, .int l3] [.int l2] mx_183 li_183_116 rfl rfl si_14_380 rfl (by decide) (by decide) (by omega) ma_182 rfl (Nat.le_of_ble_eq_true rfl) rfl rfl (Nat.le_of_ble_eq_true rfl) (rc_1 mt_at_182 rfl rfl (by decide) hc) (e_m_inside (by omega) l0 l3 M _ e) ?_
      show EV d 183 119 [some (.ref l0), none, some (.int l2), some (.int l3)] [.int v2, .int l2] M1 _
      refine EV_stq mx_183 (pc' := 107) (L' := [some (.ref l0), none, some (.int (l2 + v2)), some (.int (l3 + (1 : Int32)))]) (st' := []) bo_183_119_ded126 rfl ?_
      exact ih l0 (l2 + v2) (l3 + (1 : Int32)) M1 r h
theorem e_m_count_131 {d : Nat} (hd : 1 ≤ d) : ∀ (n : Nat) (l0 : Nat) (l2 : Int32) (l3 : Int32) (M : Mem) (r : Int32 × Mem), f_m_count_131 n l0 l2 l3 M = some r → EV d 183 131 [some (.ref l0), none, some (.int l2), some (.int l3)] [] M (some (.int r.1), r.2) := by
  intro n
  induction n with
  | zero => intro l0 l2 l3 M r h; cases h
  | succ n ih =>
    intro l0 l2 l3 M r h
    unfold f_m_count_131 at h
    refine EV_stq mx_183 (pc' := 134) (L' := [some (.ref l0), none, some (.int l2), some (.int l3)]) (st' := [.int (18 : Int32), .int l3]) bo_183_131_020aa4 rfl ?_
    refine h_ge h (fun h hc => ?_) (fun h hc => ?_)
    · refine r_icT mx_183 li_183_134 (by decide) rfl hc ?_
      refine EV_stq mx_183 (pc' := 153) (L' := [some (.ref l0), none, some (.int l2), some (.int l3)]) (st' := [.int l2]) bo_183_152_675174 rfl ?_
      obtain rfl := Option.some.inj h
      exact r_ret mx_183 li_183_153 rfl ro_int
    · refine r_icF mx_183 li_183_134 (by decide) hc ?_
      refine EV_stq mx_183 (pc' := 139) (L' := [some (.ref l0), none, some (.int l2), some (.int l3)]) (st' := [.ref l0, .int l2]) bo_183_137_4ee428 rfl ?_
      refine r_gA mx_183 li_183_139 fd_14_93 rfl h (fun a1 h => ?_)
      refine EV_stq mx_183 (pc' := 143) (L' := [some (.ref l0), none, some (.int l2), some (.int l3)]) (st' := [.int l3, .ref a1, .int l2]) bo_183_142_5324d1 rfl ?_
      refine r_aI mx_183 li_183_143 h (fun v2 h => ?_)
      refine EV_stq mx_183 (pc' := 131) (L' := [some (.ref l0), none, some (.int (l2 + v2)), some (.int (l3 + (1 : Int32)))]) (st' := []) bo_183_144_97ec55 rfl ?_
      exact ih l0 (l2 + v2) (l3 + (1 : Int32)) M r h
theorem e_m_count_198 {d : Nat} (hd : 1 ≤ d) (k156 : Nat → Int32 → Int32 → Mem → Option (Int32 × Mem)) (hk156 : ∀ l0 l2 l3 M r, k156 l0 l2 l3 M = some r → EV d 183 156 [some (.ref l0), none, some (.int l2), some (.int l3)] [] M (some (.int r.1), r.2)) (l0 : Nat) (l3 : Int32) (s0 : Int32) (s1 : Int32) (M : Mem) (r : Int32 × Mem) (h : f_m_count_198 k156 l0 l3 s0 s1 M = some r) : EV d 183 198 [some (.ref l0), none, none, some (.int l3)] [.int s0, .int s1] M (some (.int r.1), r.2) := by
  unfold f_m_count_198 at h
  refine EV_stq mx_183 (pc' := 156) (L' := [some (.ref l0), none, some (.int (s1 + s0)), some (.int (l3 + (1 : Int32)))]) (st' := []) bo_183_198_cb4bae rfl ?_
  exact hk156 l0 (s1 + s0) (l3 + (1 : Int32)) M r h
theorem e_m_count_156 {d : Nat} (hd : 1 ≤ d) : ∀ (n : Nat) (l0 : Nat) (l2 : Int32) (l3 : Int32) (M : Mem) (r : Int32 × Mem), f_m_count_156 n l0 l2 l3 M = some r → EV d 183 156 [some (.ref l0), none, some (.int l2), some (.int l3)] [] M (some (.int r.1), r.2) := by
  intro n
  induction n with
  | zero => intro l0 l2 l3 M r h; cases h
  | succ n ih =>
    intro l0 l2 l3 M r h
    unfold f_m_count_156 at h
    refine EV_stq mx_183 (pc' := 159) (L' := [some (.ref l0), none, some (.int l2), some (.int l3)]) (st' := [.int (16 : Int32), .int l3]) bo_183_156_510bac rfl ?_
    refine h_ge h (fun h hc => ?_) (fun h hc => ?_)
    · refine r_icT mx_183 li_183_159 (by decide) rfl hc ?_
      refine EV_stq mx_183 (pc' := 207) (L' := [some (.ref l0), none, some (.int l2), some (.int l3)]) (st' := [.int l2]) bo_183_206_1365ed rfl ?_
      obtain rfl := Option.some.inj h
      exact r_ret mx_183 li_183_207 rfl ro_int
    · refine r_icF mx_183 li_183_159 (by decide) hc ?_
      refine EV_stq mx_183 (pc' := 164) (L' := [some (.ref l0), none, some (.int l2), some (.int l3)]) (st' := [.ref l0, .int l2]) bo_183_162_c37773 rfl ?_
      refine r_gA mx_183 li_183_164 fd_14_56 rfl h (fun a1 h => ?_)
      refine EV_stq mx_183 (pc' := 170) (L' := [some (.ref l0), none, some (.int l2), some (.int l3)]) (st' := [.ref l0, .int (16 : Int32), .ref a1, .int l2]) bo_183_167_902ace rfl ?_
      refine h_ck h (fun hc h => ?_)
      refine h_cI h (fun v3 M2 e h => ?_)
      refine EV_call [.ref l0] [.int (16 : Int32), .ref a1, .int l2] mx_183 li_183_170 rfl rfl si_14_199 rfl (by decide) (by decide) (by omega) ma_140 rfl (Nat.le_of_ble_eq_true rfl) rfl rfl (Nat.le_of_ble_eq_true rfl) (rc_1 mt_at_140 rfl rfl (by decide) hc) (e_m_sink (by omega) l0 M _ e) ?_
      show EV d 183 173 [some (.ref l0), none, some (.int l2), some (.int l3)] [.int v3, .int (16 : Int32), .ref a1, .int l2] M2 _
      refine EV_stq mx_183 (pc' := 176) (L' := [some (.ref l0), none, some (.int l2), some (.int l3)]) (st' := [.int (((16 : Int32) * v3) + l3), .ref a1, .int l2]) bo_183_173_ca712b rfl ?_
      refine r_aB mx_183 li_183_176 h (fun v4 h => ?_)
      refine h_eq h (fun h hc => ?_) (fun h hc => ?_)
      · refine r_ifT mx_183 li_183_177 (by decide) rfl hc ?_
        refine EV_stq mx_183 (pc' := 198) (L' := [some (.ref l0), none, some (.int l2), some (.int l3)]) (st' := [.int (0 : Int32), .int l2]) bo_183_197_f35caa rfl ?_
        refine EV_forget (A := [some (.ref l0), none, none, some (.int l3)]) (lsub_of _ _ ⟨Or.inr rfl, ⟨Or.inl rfl, ⟨Or.inl rfl, ⟨Or.inr rfl, trivial⟩⟩⟩⟩) ?_
        exact e_m_count_198 hd _ ih l0 l3 (0 : Int32) l2 M2 r h
      · refine r_ifF mx_183 li_183_177 (by decide) hc ?_
        refine EV_stq mx_183 (pc' := 181) (L' := [some (.ref l0), none, some (.int l2), some (.int l3)]) (st' := [.ref l0, .int l2]) bo_183_180_b82c80 rfl ?_
        refine r_gA mx_183 li_183_181 fd_14_75 rfl h (fun a5 h => ?_)
        refine EV_stq mx_183 (pc' := 187) (L' := [some (.ref l0), none, some (.int l2), some (.int l3)]) (st' := [.ref l0, .int (16 : Int32), .ref a5, .int l2]) bo_183_184_6219d1 rfl ?_
        refine h_ck h (fun hc h => ?_)
        refine h_cI h (fun v7 M6 e h => ?_)
        refine EV_call [.ref l0] [.int (16 : Int32), .ref a5, .int l2] mx_183 li_183_187 rfl rfl si_14_199 rfl (by decide) (by decide) (by omega) ma_140 rfl (Nat.le_of_ble_eq_true rfl) rfl rfl (Nat.le_of_ble_eq_true rfl) (rc_1 mt_at_140 rfl rfl (by decide) hc) (e_m_sink (by omega) l0 M2 _ e) ?_
        show EV d 183 190 [some (.ref l0), none, some (.int l2), some (.int l3)] [.int v7, .int (16 : Int32), .ref a5, .int l2] M6 _
        refine EV_stq mx_183 (pc' := 193) (L' := [some (.ref l0), none, some (.int l2), some (.int l3)]) (st' := [.int (((16 : Int32) * v7) + l3), .ref a5, .int l2]) bo_183_190_2748b4 rfl ?_
        refine r_aI mx_183 li_183_193 h (fun v8 h => ?_)
        refine EV_stq mx_183 (pc' := 198) (L' := [some (.ref l0), none, some (.int l2), some (.int l3)]) (st' := [.int v8, .int l2]) bo_183_194_f156ea rfl ?_
        refine EV_forget (A := [some (.ref l0), none, none, some (.int l3)]) (lsub_of _ _ ⟨Or.inr rfl, ⟨Or.inl rfl, ⟨Or.inl rfl, ⟨Or.inr rfl, trivial⟩⟩⟩⟩) ?_
        exact e_m_count_198 hd _ ih l0 l3 v8 l2 M6 r h
theorem e_m_count {d : Nat} (hd : 1 ≤ d) (p0 : Nat) (p1 : Int32) (M : Mem) (r : Int32 × Mem) (h : f_m_count p0 p1 M = some r) : EV d 183 0 (entL 4 [.ref p0, .int p1]) [] M (some (.int r.1), r.2) := by
  show EV d 183 0 [some (.ref p0), some (.int p1), none, none] [] M _
  unfold f_m_count at h
  refine EV_stq mx_183 (pc' := 4) (L' := [some (.ref p0), some (.int p1), none, none]) (st' := [.int (9 : Int32), .int (0 : Int32), .int p1]) bo_183_0_8b3750 rfl ?_
  refine h_cI h (fun v2 M1 e h => ?_)
  refine EV_call [.int p1, .int (0 : Int32), .int (9 : Int32)] [] mx_183 li_183_4 rfl rfl si_14_203 rfl (by decide) (by decide) (by omega) ma_29 rfl (Nat.le_of_ble_eq_true rfl) rfl rfl (Nat.le_of_ble_eq_true rfl) rfl (e_m_isIn (by omega) p1 (0 : Int32) (9 : Int32) M _ e) ?_
  show EV d 183 7 [some (.ref p0), some (.int p1), none, none] [.int v2] M1 _
  refine h_ne h (fun h hc => ?_) (fun h hc => ?_)
  · refine r_ifF mx_183 li_183_7 (by decide) hc ?_
    refine EV_stq mx_183 (pc' := 12) (L' := [some (.ref p0), some (.int p1), none, none]) (st' := [.int (-1000000002 : Int32)]) bo_183_10_2a30f5 rfl ?_
    obtain rfl := Option.some.inj h
    exact r_ret mx_183 li_183_12 rfl ro_int
  · refine r_ifT mx_183 li_183_7 (by decide) rfl hc ?_
    refine EV_stq mx_183 (pc' := 16) (L' := [some (.ref p0), some (.int p1), some (.int (0 : Int32)), none]) (st' := [.int p1]) bo_183_13_ac7d50 rfl ?_
    refine h_sw h (fun hh e0 => ?_) (fun h e0 => ?_)
    · clear h
      subst e0
      have h := hh
      clear hh
      refine r_tsI (off := 52) mx_183 li_183_16 (by decide +kernel) (by decide +kernel) (by decide) rfl ?_
      refine EV_stq mx_183 (pc' := 69) (L' := [some (.ref p0), some (.int (0 : Int32)), some (.int (0 : Int32)), none]) (st' := [.ref p0]) bo_183_68_7584e0 rfl ?_
      refine r_gI mx_183 li_183_69 fd_14_196 ⟨by decide, by decide⟩ h (fun v3 h => ?_)
      refine EV_stq mx_183 (pc' := 74) (L' := [some (.ref p0), some (.int (0 : Int32)), some (.int (0 : Int32)), none]) (st' := [.int (v3 + (2 : Int32))]) bo_183_72_215158 rfl ?_
      obtain rfl := Option.some.inj h
      exact r_ret mx_183 li_183_74 rfl ro_int
    refine h_sw h (fun hh e1 => ?_) (fun h e1 => ?_)
    · clear h
      subst e1
      have h := hh
      clear hh
      refine r_tsI (off := 59) mx_183 li_183_16 (by decide +kernel) (by decide +kernel) (by decide) rfl ?_
      refine EV_stq mx_183 (pc' := 76) (L' := [some (.ref p0), some (.int (1 : Int32)), some (.int (0 : Int32)), none]) (st' := [.ref p0]) bo_183_75_1f1f88 rfl ?_
      refine r_gI mx_183 li_183_76 fd_14_275 ⟨by decide, by decide⟩ h (fun v4 h => ?_)
      obtain rfl := Option.some.inj h
      exact r_ret mx_183 li_183_79 rfl ro_int
    refine h_sw h (fun hh e2 => ?_) (fun h e2 => ?_)
    · clear h
      subst e2
      have h := hh
      clear hh
      refine r_tsI (off := 64) mx_183 li_183_16 (by decide +kernel) (by decide +kernel) (by decide) rfl ?_
      refine EV_stq mx_183 (pc' := 81) (L' := [some (.ref p0), some (.int (2 : Int32)), some (.int (0 : Int32)), none]) (st' := [.ref p0]) bo_183_80_1d0e60 rfl ?_
      refine r_gI mx_183 li_183_81 fd_14_271 ⟨by decide, by decide⟩ h (fun v5 h => ?_)
      obtain rfl := Option.some.inj h
      exact r_ret mx_183 li_183_84 rfl ro_int
    refine h_sw h (fun hh e3 => ?_) (fun h e3 => ?_)
    · clear h
      subst e3
      have h := hh
      clear hh
      refine r_tsI (off := 69) mx_183 li_183_16 (by decide +kernel) (by decide +kernel) (by decide) rfl ?_
      refine EV_stq mx_183 (pc' := 86) (L' := [some (.ref p0), some (.int (3 : Int32)), some (.int (0 : Int32)), none]) (st' := [.ref p0]) bo_183_85_4765e0 rfl ?_
      refine r_gI mx_183 li_183_86 fd_14_243 ⟨by decide, by decide⟩ h (fun v6 h => ?_)
      obtain rfl := Option.some.inj h
      exact r_ret mx_183 li_183_89 rfl ro_int
    refine h_sw h (fun hh e4 => ?_) (fun h e4 => ?_)
    · clear h
      subst e4
      have h := hh
      clear hh
      refine r_tsI (off := 74) mx_183 li_183_16 (by decide +kernel) (by decide +kernel) (by decide) rfl ?_
      refine EV_stq mx_183 (pc' := 91) (L' := [some (.ref p0), some (.int (4 : Int32)), some (.int (0 : Int32)), none]) (st' := [.ref p0]) bo_183_90_d3b5bf rfl ?_
      refine r_gI mx_183 li_183_91 fd_14_253 ⟨by decide, by decide⟩ h (fun v7 h => ?_)
      obtain rfl := Option.some.inj h
      exact r_ret mx_183 li_183_94 rfl ro_int
    refine h_sw h (fun hh e5 => ?_) (fun h e5 => ?_)
    · clear h
      subst e5
      have h := hh
      clear hh
      refine r_tsI (off := 79) mx_183 li_183_16 (by decide +kernel) (by decide +kernel) (by decide) rfl ?_
      refine EV_stq mx_183 (pc' := 96) (L' := [some (.ref p0), some (.int (5 : Int32)), some (.int (0 : Int32)), none]) (st' := [.ref p0]) bo_183_95_076086 rfl ?_
      refine r_gI mx_183 li_183_96 fd_14_268 ⟨by decide, by decide⟩ h (fun v8 h => ?_)
      obtain rfl := Option.some.inj h
      exact r_ret mx_183 li_183_99 rfl ro_int
    refine h_sw h (fun hh e6 => ?_) (fun h e6 => ?_)
    · clear h
      subst e6
      have h := hh
      clear hh
      refine r_tsI (off := 84) mx_183 li_183_16 (by decide +kernel) (by decide +kernel) (by decide) rfl ?_
      refine EV_stq mx_183 (pc' := 101) (L' := [some (.ref p0), some (.int (6 : Int32)), some (.int (0 : Int32)), none]) (st' := [.ref p0]) bo_183_100_5dd146 rfl ?_
      refine r_gI mx_183 li_183_101 fd_14_256 ⟨by decide, by decide⟩ h (fun v9 h => ?_)
      obtain rfl := Option.some.inj h
      exact r_ret mx_183 li_183_104 rfl ro_int
    refine h_sw h (fun hh e7 => ?_) (fun h e7 => ?_)
    · clear h
      subst e7
      have h := hh
      clear hh
      refine r_tsI (off := 89) mx_183 li_183_16 (by decide +kernel) (by decide +kernel) (by decide) rfl ?_
      refine EV_stq mx_183 (pc' := 107) (L' := [some (.ref p0), some (.int (7 : Int32)), some (.int (0 : Int32)), some (.int (0 : Int32))]) (st' := []) bo_183_105_306733 rfl ?_
      refine EV_forget (A := [some (.ref p0), none, some (.int (0 : Int32)), some (.int (0 : Int32))]) (lsub_of _ _ ⟨Or.inr rfl, ⟨Or.inl rfl, ⟨Or.inr rfl, ⟨Or.inr rfl, trivial⟩⟩⟩⟩) ?_
      exact e_m_count_107 hd FU p0 (0 : Int32) (0 : Int32) M1 r h
    refine h_sw h (fun hh e8 => ?_) (fun h e8 => ?_)
    · clear h
      subst e8
      have h := hh
      clear hh
      refine r_tsI (off := 113) mx_183 li_183_16 (by decide +kernel) (by decide +kernel) (by decide) rfl ?_
      refine EV_stq mx_183 (pc' := 131) (L' := [some (.ref p0), some (.int (8 : Int32)), some (.int (0 : Int32)), some (.int (0 : Int32))]) (st' := []) bo_183_129_230927 rfl ?_
      refine EV_forget (A := [some (.ref p0), none, some (.int (0 : Int32)), some (.int (0 : Int32))]) (lsub_of _ _ ⟨Or.inr rfl, ⟨Or.inl rfl, ⟨Or.inr rfl, ⟨Or.inr rfl, trivial⟩⟩⟩⟩) ?_
      exact e_m_count_131 hd FU p0 (0 : Int32) (0 : Int32) M1 r h
    refine r_tsD mx_183 li_183_16 (by have n0 := lv_neT e0 (a := 0) (by decide); have n1 := lv_neT e1 (a := 1) (by decide); have n2 := lv_neT e2 (a := 2) (by decide); have n3 := lv_neT e3 (a := 3) (by decide); have n4 := lv_neT e4 (a := 4) (by decide); have n5 := lv_neT e5 (a := 5) (by decide); have n6 := lv_neT e6 (a := 6) (by decide); have n7 := lv_neT e7 (a := 7) (by decide); have n8 := lv_neT e8 (a := 8) (by decide); omega) (by decide) rfl ?_
    refine EV_stq mx_183 (pc' := 156) (L' := [some (.ref p0), some (.int p1), some (.int (0 : Int32)), some (.int (0 : Int32))]) (st' := []) bo_183_154_fc1ee4 rfl ?_
    refine EV_forget (A := [some (.ref p0), none, some (.int (0 : Int32)), some (.int (0 : Int32))]) (lsub_of _ _ ⟨Or.inr rfl, ⟨Or.inl rfl, ⟨Or.inr rfl, ⟨Or.inr rfl, trivial⟩⟩⟩⟩) ?_
    exact e_m_count_156 hd FU p0 (0 : Int32) (0 : Int32) M1 r h
theorem e_x_operator {d : Nat} (hd : 1 ≤ d) (p0 : Nat) (p1 : Int32) (p2 : Int32) (M : Mem) (r : Int32 × Mem) (h : f_x_operator p0 p1 p2 M = some r) : EV d 184 0 (entL 4 [.ref p0, .int p1, .int p2]) [] M (some (.int r.1), r.2) := by
  show EV d 184 0 [some (.ref p0), some (.int p1), some (.int p2), none] [] M _
  unfold f_x_operator at h
  refine EV_stq mx_184 (pc' := 1) (L' := [some (.ref p0), some (.int p1), some (.int p2), none]) (st' := [.ref p0]) bo_184_0_8d5162 rfl ?_
  refine r_gA mx_184 li_184_1 fd_13_31 rfl h (fun a1 h => ?_)
  refine EV_stq mx_184 (pc' := 5) (L' := [some (.ref p0), some (.int p1), some (.int p2), none]) (st' := [.int p1, .ref a1]) bo_184_4_e962e2 rfl ?_
  refine h_ck h (fun hc h => ?_)
  refine h_cR h (fun o3 M2 e h => ?_)
  refine EV_call [.ref a1, .int p1] [] mx_184 li_184_5 rfl rfl si_13_133 rfl (by decide) (by decide) (by omega) ma_56 rfl (Nat.le_of_ble_eq_true rfl) rfl rfl (Nat.le_of_ble_eq_true rfl) (rc_1 mt_at_56 rfl rfl (by decide) hc) (e_sm_operatorAt (by omega) a1 p1 M _ e) ?_
  refine h_onR (G := fun o => EV d 184 8 [some (.ref p0), some (.int p1), some (.int p2), none] [rfv o] M2 _) h (fun h => ?_) (fun a4 h => ?_)
  · refine EV_stq mx_184 (pc' := 15) (L' := [some (.ref p0), some (.int p1), some (.int p2), some (.null)]) (st' := [.int (-1000000001 : Int32)]) bo_184_8_9f8e89 rfl ?_
    obtain rfl := Option.some.inj h
    exact r_ret mx_184 li_184_15 rfl ro_int
  · refine EV_stq mx_184 (pc' := 17) (L' := [some (.ref p0), some (.int p1), some (.int p2), some (.ref a4)]) (st' := [.int p2]) bo_184_8_20dc0f rfl ?_
    refine h_sw h (fun hh e0 => ?_) (fun h e0 => ?_)
    · clear h
      subst e0
      have h := hh
      clear hh
      refine r_tsI (off := 47) mx_184 li_184_17 (by decide +kernel) (by decide +kernel) (by decide) rfl ?_
      refine EV_stq mx_184 (pc' := 65) (L' := [some (.ref p0), some (.int p1), some (.int (0 : Int32)), some (.ref a4)]) (st' := [.ref a4]) bo_184_64_446f01 rfl ?_
      refine r_gI mx_184 li_184_65 fd_13_160 ⟨by decide, by decide⟩ h (fun v5 h => ?_)
      obtain rfl := Option.some.inj h
      exact r_ret mx_184 li_184_68 rfl ro_int
    refine h_sw h (fun hh e1 => ?_) (fun h e1 => ?_)
    · clear h
      subst e1
      have h := hh
      clear hh
      refine r_tsI (off := 52) mx_184 li_184_17 (by decide +kernel) (by decide +kernel) (by decide) rfl ?_
      refine EV_stq mx_184 (pc' := 70) (L' := [some (.ref p0), some (.int p1), some (.int (1 : Int32)), some (.ref a4)]) (st' := [.ref a4]) bo_184_69_d2296b rfl ?_
      refine r_gI mx_184 li_184_70 fd_13_165 ⟨by decide, by decide⟩ h (fun v6 h => ?_)
      obtain rfl := Option.some.inj h
      exact r_ret mx_184 li_184_73 rfl ro_int
    refine h_sw h (fun hh e2 => ?_) (fun h e2 => ?_)
    · clear h
      subst e2
      have h := hh
      clear hh
      refine r_tsI (off := 57) mx_184 li_184_17 (by decide +kernel) (by decide +kernel) (by decide) rfl ?_
      refine EV_stq mx_184 (pc' := 75) (L' := [some (.ref p0), some (.int p1), some (.int (2 : Int32)), some (.ref a4)]) (st' := [.ref a4]) bo_184_74_ac6591 rfl ?_
      refine r_gI mx_184 li_184_75 fd_13_166 ⟨by decide, by decide⟩ h (fun v7 h => ?_)
      obtain rfl := Option.some.inj h
      exact r_ret mx_184 li_184_78 rfl ro_int
    refine h_sw h (fun hh e3 => ?_) (fun h e3 => ?_)
    · clear h
      subst e3
      have h := hh
      clear hh
      refine r_tsI (off := 62) mx_184 li_184_17 (by decide +kernel) (by decide +kernel) (by decide) rfl ?_
      refine EV_stq mx_184 (pc' := 80) (L' := [some (.ref p0), some (.int p1), some (.int (3 : Int32)), some (.ref a4)]) (st' := [.ref a4]) bo_184_79_febf86 rfl ?_
      refine r_gI mx_184 li_184_80 fd_13_169 ⟨by decide, by decide⟩ h (fun v8 h => ?_)
      obtain rfl := Option.some.inj h
      exact r_ret mx_184 li_184_83 rfl ro_int
    refine h_sw h (fun hh e4 => ?_) (fun h e4 => ?_)
    · clear h
      subst e4
      have h := hh
      clear hh
      refine r_tsI (off := 67) mx_184 li_184_17 (by decide +kernel) (by decide +kernel) (by decide) rfl ?_
      refine EV_stq mx_184 (pc' := 85) (L' := [some (.ref p0), some (.int p1), some (.int (4 : Int32)), some (.ref a4)]) (st' := [.ref a4]) bo_184_84_8a7630 rfl ?_
      refine r_gI mx_184 li_184_85 fd_13_172 ⟨by decide, by decide⟩ h (fun v9 h => ?_)
      obtain rfl := Option.some.inj h
      exact r_ret mx_184 li_184_88 rfl ro_int
    refine h_sw h (fun hh e5 => ?_) (fun h e5 => ?_)
    · clear h
      subst e5
      have h := hh
      clear hh
      refine r_tsI (off := 72) mx_184 li_184_17 (by decide +kernel) (by decide +kernel) (by decide) rfl ?_
      refine EV_stq mx_184 (pc' := 90) (L' := [some (.ref p0), some (.int p1), some (.int (5 : Int32)), some (.ref a4)]) (st' := [.ref a4]) bo_184_89_bbca9b rfl ?_
      refine r_gI mx_184 li_184_90 fd_13_175 ⟨by decide, by decide⟩ h (fun v10 h => ?_)
      obtain rfl := Option.some.inj h
      exact r_ret mx_184 li_184_93 rfl ro_int
    refine h_sw h (fun hh e6 => ?_) (fun h e6 => ?_)
    · clear h
      subst e6
      have h := hh
      clear hh
      refine r_tsI (off := 77) mx_184 li_184_17 (by decide +kernel) (by decide +kernel) (by decide) rfl ?_
      refine EV_stq mx_184 (pc' := 95) (L' := [some (.ref p0), some (.int p1), some (.int (6 : Int32)), some (.ref a4)]) (st' := [.ref a4]) bo_184_94_6615ab rfl ?_
      refine r_gI mx_184 li_184_95 fd_13_178 ⟨by decide, by decide⟩ h (fun v11 h => ?_)
      obtain rfl := Option.some.inj h
      exact r_ret mx_184 li_184_98 rfl ro_int
    refine h_sw h (fun hh e7 => ?_) (fun h e7 => ?_)
    · clear h
      subst e7
      have h := hh
      clear hh
      refine r_tsI (off := 82) mx_184 li_184_17 (by decide +kernel) (by decide +kernel) (by decide) rfl ?_
      refine EV_stq mx_184 (pc' := 100) (L' := [some (.ref p0), some (.int p1), some (.int (7 : Int32)), some (.ref a4)]) (st' := [.ref a4]) bo_184_99_e6cd5c rfl ?_
      refine r_gI mx_184 li_184_100 fd_13_181 ⟨by decide, by decide⟩ h (fun v12 h => ?_)
      obtain rfl := Option.some.inj h
      exact r_ret mx_184 li_184_103 rfl ro_int
    refine r_tsD mx_184 li_184_17 (by have n0 := lv_neT e0 (a := 0) (by decide); have n1 := lv_neT e1 (a := 1) (by decide); have n2 := lv_neT e2 (a := 2) (by decide); have n3 := lv_neT e3 (a := 3) (by decide); have n4 := lv_neT e4 (a := 4) (by decide); have n5 := lv_neT e5 (a := 5) (by decide); have n6 := lv_neT e6 (a := 6) (by decide); have n7 := lv_neT e7 (a := 7) (by decide); omega) (by decide) rfl ?_
    refine EV_stq mx_184 (pc' := 106) (L' := [some (.ref p0), some (.int p1), some (.int p2), some (.ref a4)]) (st' := [.int (-1000000002 : Int32)]) bo_184_104_a38d21 rfl ?_
    obtain rfl := Option.some.inj h
    exact r_ret mx_184 li_184_106 rfl ro_int
theorem e_m_operator {d : Nat} (hd : 2 ≤ d) (p0 : Nat) (p1 : Int32) (p2 : Int32) (M : Mem) (r : Int32 × Mem) (h : f_m_operator p0 p1 p2 M = some r) : EV d 185 0 (entL 3 [.ref p0, .int p1, .int p2]) [] M (some (.int r.1), r.2) := by
  show EV d 185 0 [some (.ref p0), some (.int p1), some (.int p2)] [] M _
  unfold f_m_operator at h
  refine EV_stq mx_185 (pc' := 2) (L' := [some (.ref p0), some (.int p1), some (.int p2)]) (st' := [.int p1, .ref p0]) bo_185_0_264884 rfl ?_
  refine h_ck h (fun hc h => ?_)
  refine h_cI h (fun v2 M1 e h => ?_)
  refine EV_call [.ref p0, .int p1] [] mx_185 li_185_2 rfl rfl si_14_377 rfl (by decide) (by decide) (by omega) ma_177 rfl (Nat.le_of_ble_eq_true rfl) rfl rfl (Nat.le_of_ble_eq_true rfl) (rc_1 mt_at_177 rfl rfl (by decide) hc) (e_m_isOperator (by omega) p0 p1 M _ e) ?_
  show EV d 185 5 [some (.ref p0), some (.int p1), some (.int p2)] [.int v2] M1 _
  refine h_ne h (fun h hc => ?_) (fun h hc => ?_)
  · refine r_ifF mx_185 li_185_5 (by decide) hc ?_
    refine EV_stq mx_185 (pc' := 11) (L' := [some (.ref p0), some (.int p1), some (.int p2)]) (st' := [.int (-1000000001 : Int32)]) bo_185_8_383530 rfl ?_
    obtain rfl := Option.some.inj h
    exact r_ret mx_185 li_185_11 rfl ro_int
  · refine r_ifT mx_185 li_185_5 (by decide) rfl hc ?_
    refine EV_stq mx_185 (pc' := 16) (L' := [some (.ref p0), some (.int p1), some (.int p2)]) (st' := [.int (7 : Int32), .int (0 : Int32), .int p2]) bo_185_12_76c768 rfl ?_
    refine h_cI h (fun v4 M3 e h => ?_)
    refine EV_call [.int p2, .int (0 : Int32), .int (7 : Int32)] [] mx_185 li_185_16 rfl rfl si_14_203 rfl (by decide) (by decide) (by omega) ma_29 rfl (Nat.le_of_ble_eq_true rfl) rfl rfl (Nat.le_of_ble_eq_true rfl) rfl (e_m_isIn (by omega) p2 (0 : Int32) (7 : Int32) M1 _ e) ?_
    show EV d 185 19 [some (.ref p0), some (.int p1), some (.int p2)] [.int v4] M3 _
    refine h_ne h (fun h hc => ?_) (fun h hc => ?_)
    · refine r_ifF mx_185 li_185_19 (by decide) hc ?_
      refine EV_stq mx_185 (pc' := 24) (L' := [some (.ref p0), some (.int p1), some (.int p2)]) (st' := [.int (-1000000002 : Int32)]) bo_185_22_60ac31 rfl ?_
      obtain rfl := Option.some.inj h
      exact r_ret mx_185 li_185_24 rfl ro_int
    · refine r_ifT mx_185 li_185_19 (by decide) rfl hc ?_
      refine EV_stq mx_185 (pc' := 26) (L' := [some (.ref p0), some (.int p1), some (.int p2)]) (st' := [.int p2]) bo_185_25_1858f6 rfl ?_
      refine h_sw h (fun hh e0 => ?_) (fun h e0 => ?_)
      · clear h
        subst e0
        have h := hh
        clear hh
        refine r_tsI (off := 42) mx_185 li_185_26 (by decide +kernel) (by decide +kernel) (by decide) rfl ?_
        refine EV_stq mx_185 (pc' := 69) (L' := [some (.ref p0), some (.int p1), some (.int (0 : Int32))]) (st' := [.ref p0]) bo_185_68_7584e0 rfl ?_
        refine r_gA mx_185 li_185_69 fd_14_13 rfl h (fun a5 h => ?_)
        refine EV_stq mx_185 (pc' := 73) (L' := [some (.ref p0), some (.int p1), some (.int (0 : Int32))]) (st' := [.int p1, .ref a5]) bo_185_72_c0ffc8 rfl ?_
        refine r_aI mx_185 li_185_73 h (fun v6 h => ?_)
        obtain rfl := Option.some.inj h
        exact r_ret mx_185 li_185_74 rfl ro_int
      refine h_sw h (fun hh e1 => ?_) (fun h e1 => ?_)
      · clear h
        subst e1
        have h := hh
        clear hh
        refine r_tsI (off := 49) mx_185 li_185_26 (by decide +kernel) (by decide +kernel) (by decide) rfl ?_
        refine EV_stq mx_185 (pc' := 76) (L' := [some (.ref p0), some (.int p1), some (.int (1 : Int32))]) (st' := [.ref p0]) bo_185_75_1f1f88 rfl ?_
        refine r_gA mx_185 li_185_76 fd_14_22 rfl h (fun a7 h => ?_)
        refine EV_stq mx_185 (pc' := 80) (L' := [some (.ref p0), some (.int p1), some (.int (1 : Int32))]) (st' := [.int p1, .ref a7]) bo_185_79_febf86 rfl ?_
        refine r_aI mx_185 li_185_80 h (fun v8 h => ?_)
        obtain rfl := Option.some.inj h
        exact r_ret mx_185 li_185_81 rfl ro_int
      refine h_sw h (fun hh e2 => ?_) (fun h e2 => ?_)
      · clear h
        subst e2
        have h := hh
        clear hh
        refine r_tsI (off := 56) mx_185 li_185_26 (by decide +kernel) (by decide +kernel) (by decide) rfl ?_
        refine EV_stq mx_185 (pc' := 83) (L' := [some (.ref p0), some (.int p1), some (.int (2 : Int32))]) (st' := [.ref p0]) bo_185_82_d3719d rfl ?_
        refine r_gA mx_185 li_185_83 fd_14_16 rfl h (fun a9 h => ?_)
        refine EV_stq mx_185 (pc' := 87) (L' := [some (.ref p0), some (.int p1), some (.int (2 : Int32))]) (st' := [.int p1, .ref a9]) bo_185_86_bff005 rfl ?_
        refine r_aI mx_185 li_185_87 h (fun v10 h => ?_)
        obtain rfl := Option.some.inj h
        exact r_ret mx_185 li_185_88 rfl ro_int
      refine h_sw h (fun hh e3 => ?_) (fun h e3 => ?_)
      · clear h
        subst e3
        have h := hh
        clear hh
        refine r_tsI (off := 63) mx_185 li_185_26 (by decide +kernel) (by decide +kernel) (by decide) rfl ?_
        refine EV_stq mx_185 (pc' := 90) (L' := [some (.ref p0), some (.int p1), some (.int (3 : Int32))]) (st' := [.ref p0]) bo_185_89_bbca9b rfl ?_
        refine r_gA mx_185 li_185_90 fd_14_19 rfl h (fun a11 h => ?_)
        refine EV_stq mx_185 (pc' := 94) (L' := [some (.ref p0), some (.int p1), some (.int (3 : Int32))]) (st' := [.int p1, .ref a11]) bo_185_93_7021a1 rfl ?_
        refine r_aI mx_185 li_185_94 h (fun v12 h => ?_)
        obtain rfl := Option.some.inj h
        exact r_ret mx_185 li_185_95 rfl ro_int
      refine h_sw h (fun hh e4 => ?_) (fun h e4 => ?_)
      · clear h
        subst e4
        have h := hh
        clear hh
        refine r_tsI (off := 70) mx_185 li_185_26 (by decide +kernel) (by decide +kernel) (by decide) rfl ?_
        refine EV_stq mx_185 (pc' := 97) (L' := [some (.ref p0), some (.int p1), some (.int (4 : Int32))]) (st' := [.ref p0]) bo_185_96_2375ef rfl ?_
        refine r_gA mx_185 li_185_97 fd_14_44 rfl h (fun a13 h => ?_)
        refine EV_stq mx_185 (pc' := 101) (L' := [some (.ref p0), some (.int p1), some (.int (4 : Int32))]) (st' := [.int p1, .ref a13]) bo_185_100_5dd146 rfl ?_
        refine r_aI mx_185 li_185_101 h (fun v14 h => ?_)
        obtain rfl := Option.some.inj h
        exact r_ret mx_185 li_185_102 rfl ro_int
      refine h_sw h (fun hh e5 => ?_) (fun h e5 => ?_)
      · clear h
        subst e5
        have h := hh
        clear hh
        refine r_tsI (off := 77) mx_185 li_185_26 (by decide +kernel) (by decide +kernel) (by decide) rfl ?_
        refine EV_stq mx_185 (pc' := 104) (L' := [some (.ref p0), some (.int p1), some (.int (5 : Int32))]) (st' := [.ref p0]) bo_185_103_98f00a rfl ?_
        refine r_gA mx_185 li_185_104 fd_14_47 rfl h (fun a15 h => ?_)
        refine EV_stq mx_185 (pc' := 108) (L' := [some (.ref p0), some (.int p1), some (.int (5 : Int32))]) (st' := [.int p1, .ref a15]) bo_185_107_0ab20e rfl ?_
        refine r_aI mx_185 li_185_108 h (fun v16 h => ?_)
        obtain rfl := Option.some.inj h
        exact r_ret mx_185 li_185_109 rfl ro_int
      refine h_sw h (fun hh e6 => ?_) (fun h e6 => ?_)
      · clear h
        subst e6
        have h := hh
        clear hh
        refine r_tsI (off := 84) mx_185 li_185_26 (by decide +kernel) (by decide +kernel) (by decide) rfl ?_
        refine EV_stq mx_185 (pc' := 111) (L' := [some (.ref p0), some (.int p1), some (.int (6 : Int32))]) (st' := [.ref p0]) bo_185_110_d0a2fc rfl ?_
        refine r_gA mx_185 li_185_111 fd_14_50 rfl h (fun a17 h => ?_)
        refine EV_stq mx_185 (pc' := 115) (L' := [some (.ref p0), some (.int p1), some (.int (6 : Int32))]) (st' := [.int p1, .ref a17]) bo_185_114_28d19b rfl ?_
        refine r_aI mx_185 li_185_115 h (fun v18 h => ?_)
        obtain rfl := Option.some.inj h
        exact r_ret mx_185 li_185_116 rfl ro_int
      refine r_tsD mx_185 li_185_26 (by have n0 := lv_neT e0 (a := 0) (by decide); have n1 := lv_neT e1 (a := 1) (by decide); have n2 := lv_neT e2 (a := 2) (by decide); have n3 := lv_neT e3 (a := 3) (by decide); have n4 := lv_neT e4 (a := 4) (by decide); have n5 := lv_neT e5 (a := 5) (by decide); have n6 := lv_neT e6 (a := 6) (by decide); omega) (by decide) rfl ?_
      refine EV_stq mx_185 (pc' := 118) (L' := [some (.ref p0), some (.int p1), some (.int p2)]) (st' := [.ref p0]) bo_185_117_f55cfa rfl ?_
      refine r_gA mx_185 li_185_118 fd_14_53 rfl h (fun a19 h => ?_)
      refine EV_stq mx_185 (pc' := 122) (L' := [some (.ref p0), some (.int p1), some (.int p2)]) (st' := [.int p1, .ref a19]) bo_185_121_641af5 rfl ?_
      refine r_aI mx_185 li_185_122 h (fun v20 h => ?_)
      obtain rfl := Option.some.inj h
      exact r_ret mx_185 li_185_123 rfl ro_int
theorem e_op_keysOf_37 {d : Nat} (hd : 1 ≤ d) (k4 : Nat → Int32 → Int32 → Int32 → Mem → Option (Int32 × Mem)) (hk4 : ∀ l0 l1 l2 l3 M r, k4 l0 l1 l2 l3 M = some r → EV d 186 4 [some (.ref l0), some (.int l1), some (.int l2), some (.int l3)] [] M (some (.int r.1), r.2)) (l0 : Nat) (l1 : Int32) (l2 : Int32) (l3 : Int32) (M : Mem) (r : Int32 × Mem) (h : f_op_keysOf_37 k4 l0 l1 l2 l3 M = some r) : EV d 186 37 [some (.ref l0), some (.int l1), some (.int l2), some (.int l3)] [] M (some (.int r.1), r.2) := by
  unfold f_op_keysOf_37 at h
  refine EV_stq mx_186 (pc' := 4) (L' := [some (.ref l0), some (.int l1), some (.int l2), some (.int (l3 + (1 : Int32)))]) (st' := []) bo_186_37_ff1056 rfl ?_
  exact hk4 l0 l1 l2 (l3 + (1 : Int32)) M r h
theorem e_op_keysOf_4 {d : Nat} (hd : 1 ≤ d) : ∀ (n : Nat) (l0 : Nat) (l1 : Int32) (l2 : Int32) (l3 : Int32) (M : Mem) (r : Int32 × Mem), f_op_keysOf_4 n l0 l1 l2 l3 M = some r → EV d 186 4 [some (.ref l0), some (.int l1), some (.int l2), some (.int l3)] [] M (some (.int r.1), r.2) := by
  intro n
  induction n with
  | zero => intro l0 l1 l2 l3 M r h; cases h
  | succ n ih =>
    intro l0 l1 l2 l3 M r h
    unfold f_op_keysOf_4 at h
    refine EV_stq mx_186 (pc' := 7) (L' := [some (.ref l0), some (.int l1), some (.int l2), some (.int l3)]) (st' := [.int (16 : Int32), .int l3]) bo_186_4_40e659 rfl ?_
    refine h_ge h (fun h hc => ?_) (fun h hc => ?_)
    · refine r_icT mx_186 li_186_7 (by decide) rfl hc ?_
      refine EV_stq mx_186 (pc' := 44) (L' := [some (.ref l0), some (.int l1), some (.int l2), some (.int l3)]) (st' := [.int l2]) bo_186_43_d85b47 rfl ?_
      obtain rfl := Option.some.inj h
      exact r_ret mx_186 li_186_44 rfl ro_int
    · refine r_icF mx_186 li_186_7 (by decide) hc ?_
      refine EV_stq mx_186 (pc' := 11) (L' := [some (.ref l0), some (.int l1), some (.int l2), some (.int l3)]) (st' := [.ref l0]) bo_186_10_2a30f5 rfl ?_
      refine r_gA mx_186 li_186_11 fd_8_20 rfl h (fun a1 h => ?_)
      refine EV_stq mx_186 (pc' := 15) (L' := [some (.ref l0), some (.int l1), some (.int l2), some (.int l3)]) (st' := [.int l3, .ref a1]) bo_186_14_3e81ce rfl ?_
      refine h_ck h (fun hc h => ?_)
      refine h_cI h (fun v3 M2 e h => ?_)
      refine EV_call [.ref a1, .int l3] [] mx_186 li_186_15 rfl rfl si_8_60 rfl (by decide) (by decide) (by omega) ma_130 rfl (Nat.le_of_ble_eq_true rfl) rfl rfl (Nat.le_of_ble_eq_true rfl) (rc_1 mt_at_130 rfl rfl (by decide) hc) (e_ky_has (by omega) a1 l3 M _ e) ?_
      show EV d 186 18 [some (.ref l0), some (.int l1), some (.int l2), some (.int l3)] [.int v3] M2 _
      refine h_eq h (fun h hc => ?_) (fun h hc => ?_)
      · refine r_ifT mx_186 li_186_18 (by decide) rfl hc ?_
        exact e_op_keysOf_37 hd _ ih l0 l1 l2 l3 M2 r h
      · refine r_ifF mx_186 li_186_18 (by decide) hc ?_
        refine EV_stq mx_186 (pc' := 24) (L' := [some (.ref l0), some (.int l1), some (.int l2), some (.int l3)]) (st' := [.ref l0, .int l3, .ref l0]) bo_186_21_cd309e rfl ?_
        refine r_gI mx_186 li_186_24 fd_8_57 ⟨by decide, by decide⟩ h (fun v4 h => ?_)
        refine h_ck h (fun hc h => ?_)
        refine h_cI h (fun v6 M5 e h => ?_)
        refine EV_call [.ref l0, .int l3, .int v4] [] mx_186 li_186_27 rfl rfl si_8_64 rfl (by decide) (by decide) (by omega) ma_100 rfl (Nat.le_of_ble_eq_true rfl) rfl rfl (Nat.le_of_ble_eq_true rfl) (rc_1 mt_at_100 rfl rfl (by decide) hc) (e_op_ownerOf (by omega) l0 l3 v4 M2 _ e) ?_
        show EV d 186 30 [some (.ref l0), some (.int l1), some (.int l2), some (.int l3)] [.int v6] M5 _
        refine EV_stq mx_186 (pc' := 31) (L' := [some (.ref l0), some (.int l1), some (.int l2), some (.int l3)]) (st' := [.int l1, .int v6]) bo_186_30_0b4e4a rfl ?_
        refine h_ne h (fun h hc => ?_) (fun h hc => ?_)
        · refine r_icF mx_186 li_186_31 (by decide) hc ?_
          refine EV_stq mx_186 (pc' := 37) (L' := [some (.ref l0), some (.int l1), some (.int (l2 + (1 : Int32))), some (.int l3)]) (st' := []) bo_186_34_130638 rfl ?_
          exact e_op_keysOf_37 hd _ ih l0 l1 (l2 + (1 : Int32)) l3 M5 r h
        · refine r_icT mx_186 li_186_31 (by decide) rfl hc ?_
          exact e_op_keysOf_37 hd _ ih l0 l1 l2 l3 M5 r h
theorem e_op_keysOf {d : Nat} (hd : 1 ≤ d) (p0 : Nat) (p1 : Int32) (M : Mem) (r : Int32 × Mem) (h : f_op_keysOf p0 p1 M = some r) : EV d 186 0 (entL 4 [.ref p0, .int p1]) [] M (some (.int r.1), r.2) := by
  show EV d 186 0 [some (.ref p0), some (.int p1), none, none] [] M _
  unfold f_op_keysOf at h
  refine EV_stq mx_186 (pc' := 4) (L' := [some (.ref p0), some (.int p1), some (.int (0 : Int32)), some (.int (0 : Int32))]) (st' := []) bo_186_0_5a4d31 rfl ?_
  exact e_op_keysOf_4 hd FU p0 p1 (0 : Int32) (0 : Int32) M r h
theorem e_x_instance {d : Nat} (hd : 2 ≤ d) (p0 : Nat) (p1 : Int32) (p2 : Int32) (p3 : Int32) (M : Mem) (r : Int32 × Mem) (h : f_x_instance p0 p1 p2 p3 M = some r) : EV d 187 0 (entL 6 [.ref p0, .int p1, .int p2, .int p3]) [] M (some (.int r.1), r.2) := by
  show EV d 187 0 [some (.ref p0), some (.int p1), some (.int p2), some (.int p3), none, none] [] M _
  unfold f_x_instance at h
  refine EV_stq mx_187 (pc' := 1) (L' := [some (.ref p0), some (.int p1), some (.int p2), some (.int p3), none, none]) (st' := [.ref p0]) bo_187_0_8d5162 rfl ?_
  refine r_gA mx_187 li_187_1 fd_13_31 rfl h (fun a1 h => ?_)
  refine EV_stq mx_187 (pc' := 5) (L' := [some (.ref p0), some (.int p1), some (.int p2), some (.int p3), none, none]) (st' := [.int p1, .ref a1]) bo_187_4_e962e2 rfl ?_
  refine h_ck h (fun hc h => ?_)
  refine h_cR h (fun o3 M2 e h => ?_)
  refine EV_call [.ref a1, .int p1] [] mx_187 li_187_5 rfl rfl si_13_133 rfl (by decide) (by decide) (by omega) ma_56 rfl (Nat.le_of_ble_eq_true rfl) rfl rfl (Nat.le_of_ble_eq_true rfl) (rc_1 mt_at_56 rfl rfl (by decide) hc) (e_sm_operatorAt (by omega) a1 p1 M _ e) ?_
  refine h_onR (G := fun o => EV d 187 8 [some (.ref p0), some (.int p1), some (.int p2), some (.int p3), none, none] [rfv o] M2 _) h (fun h => ?_) (fun a4 h => ?_)
  · refine EV_stq mx_187 (pc' := 11) (L' := [some (.ref p0), some (.int p1), some (.int p2), some (.int p3), some (.null), none]) (st' := [.ref p0]) bo_187_8_61d989 rfl ?_
    refine r_gA mx_187 li_187_11 fd_13_31 rfl h (fun a5 h => ?_)
    refine EV_stq mx_187 (pc' := 16) (L' := [some (.ref p0), some (.int p1), some (.int p2), some (.int p3), some (.null), none]) (st' := [.int p2, .int p1, .ref a5]) bo_187_14_4d7356 rfl ?_
    refine h_ck h (fun hc h => ?_)
    refine h_cR h (fun o7 M6 e h => ?_)
    refine EV_call [.ref a5, .int p1, .int p2] [] mx_187 li_187_16 rfl rfl si_13_184 rfl (by decide) (by decide) (by omega) ma_91 rfl (Nat.le_of_ble_eq_true rfl) rfl rfl (Nat.le_of_ble_eq_true rfl) (rc_1 mt_at_91 rfl rfl (by decide) hc) (e_sm_instanceAt (by omega) a5 p1 p2 M2 _ e) ?_
    refine h_onR (G := fun o => EV d 187 19 [some (.ref p0), some (.int p1), some (.int p2), some (.int p3), some (.null), none] [rfv o] M6 _) h (fun h => ?_) (fun a8 h => ?_)
    · refine EV_stq mx_187 (pc' := 33) (L' := [some (.ref p0), some (.int p1), some (.int p2), some (.int p3), some (.null), some (.null)]) (st' := [.int (-1000000001 : Int32)]) bo_187_19_9aede2 rfl ?_
      obtain rfl := Option.some.inj h
      exact r_ret mx_187 li_187_33 rfl ro_int
    · refine EV_stq mx_187 (pc' := 33) (L' := [some (.ref p0), some (.int p1), some (.int p2), some (.int p3), some (.null), some (.ref a8)]) (st' := [.int (-1000000001 : Int32)]) bo_187_19_9aede2 rfl ?_
      obtain rfl := Option.some.inj h
      exact r_ret mx_187 li_187_33 rfl ro_int
  · refine EV_stq mx_187 (pc' := 11) (L' := [some (.ref p0), some (.int p1), some (.int p2), some (.int p3), some (.ref a4), none]) (st' := [.ref p0]) bo_187_8_61d989 rfl ?_
    refine r_gA mx_187 li_187_11 fd_13_31 rfl h (fun a9 h => ?_)
    refine EV_stq mx_187 (pc' := 16) (L' := [some (.ref p0), some (.int p1), some (.int p2), some (.int p3), some (.ref a4), none]) (st' := [.int p2, .int p1, .ref a9]) bo_187_14_4d7356 rfl ?_
    refine h_ck h (fun hc h => ?_)
    refine h_cR h (fun o11 M10 e h => ?_)
    refine EV_call [.ref a9, .int p1, .int p2] [] mx_187 li_187_16 rfl rfl si_13_184 rfl (by decide) (by decide) (by omega) ma_91 rfl (Nat.le_of_ble_eq_true rfl) rfl rfl (Nat.le_of_ble_eq_true rfl) (rc_1 mt_at_91 rfl rfl (by decide) hc) (e_sm_instanceAt (by omega) a9 p1 p2 M2 _ e) ?_
    refine h_onR (G := fun o => EV d 187 19 [some (.ref p0), some (.int p1), some (.int p2), some (.int p3), some (.ref a4), none] [rfv o] M10 _) h (fun h => ?_) (fun a12 h => ?_)
    · refine EV_stq mx_187 (pc' := 33) (L' := [some (.ref p0), some (.int p1), some (.int p2), some (.int p3), some (.ref a4), some (.null)]) (st' := [.int (-1000000001 : Int32)]) bo_187_19_7621b0 rfl ?_
      obtain rfl := Option.some.inj h
      exact r_ret mx_187 li_187_33 rfl ro_int
    · refine EV_stq mx_187 (pc' := 35) (L' := [some (.ref p0), some (.int p1), some (.int p2), some (.int p3), some (.ref a4), some (.ref a12)]) (st' := [.int p3]) bo_187_19_e4a365 rfl ?_
      refine h_sw h (fun hh e0 => ?_) (fun h e0 => ?_)
      · clear h
        subst e0
        have h := hh
        clear hh
        refine r_tsI (off := 37) mx_187 li_187_35 (by decide +kernel) (by decide +kernel) (by decide) rfl ?_
        refine EV_stq mx_187 (pc' := 74) (L' := [some (.ref p0), some (.int p1), some (.int p2), some (.int (0 : Int32)), some (.ref a4), some (.ref a12)]) (st' := [.ref a12]) bo_187_72_c0ffc8 rfl ?_
        refine r_gA mx_187 li_187_74 fd_13_188 rfl h (fun a13 h => ?_)
        refine r_gI mx_187 li_187_77 fd_13_105 ⟨by decide, by decide⟩ h (fun v14 h => ?_)
        obtain rfl := Option.some.inj h
        exact r_ret mx_187 li_187_80 rfl ro_int
      refine h_sw h (fun hh e1 => ?_) (fun h e1 => ?_)
      · clear h
        subst e1
        have h := hh
        clear hh
        refine r_tsI (off := 46) mx_187 li_187_35 (by decide +kernel) (by decide +kernel) (by decide) rfl ?_
        refine EV_stq mx_187 (pc' := 83) (L' := [some (.ref p0), some (.int p1), some (.int p2), some (.int (1 : Int32)), some (.ref a4), some (.ref a12)]) (st' := [.ref a12]) bo_187_81_6cfd26 rfl ?_
        refine r_gI mx_187 li_187_83 fd_13_193 ⟨by decide, by decide⟩ h (fun v15 h => ?_)
        refine h_eq h (fun h hc => ?_) (fun h hc => ?_)
        · refine r_ifT mx_187 li_187_86 (by decide) rfl hc ?_
          refine EV_stq mx_187 (pc' := 94) (L' := [some (.ref p0), some (.int p1), some (.int p2), some (.int (1 : Int32)), some (.ref a4), some (.ref a12)]) (st' := [.int (0 : Int32)]) bo_187_93_7021a1 rfl ?_
          obtain rfl := Option.some.inj h
          exact r_ret mx_187 li_187_94 rfl ro_int
        · refine r_ifF mx_187 li_187_86 (by decide) hc ?_
          refine EV_stq mx_187 (pc' := 94) (L' := [some (.ref p0), some (.int p1), some (.int p2), some (.int (1 : Int32)), some (.ref a4), some (.ref a12)]) (st' := [.int (1 : Int32)]) bo_187_89_e2064f rfl ?_
          obtain rfl := Option.some.inj h
          exact r_ret mx_187 li_187_94 rfl ro_int
      refine h_sw h (fun hh e2 => ?_) (fun h e2 => ?_)
      · clear h
        subst e2
        have h := hh
        clear hh
        refine r_tsI (off := 60) mx_187 li_187_35 (by decide +kernel) (by decide +kernel) (by decide) rfl ?_
        refine EV_stq mx_187 (pc' := 97) (L' := [some (.ref p0), some (.int p1), some (.int p2), some (.int (2 : Int32)), some (.ref a4), some (.ref a12)]) (st' := [.ref a12]) bo_187_95_076086 rfl ?_
        refine r_gI mx_187 li_187_97 fd_13_196 ⟨by decide, by decide⟩ h (fun v16 h => ?_)
        obtain rfl := Option.some.inj h
        exact r_ret mx_187 li_187_100 rfl ro_int
      refine h_sw h (fun hh e3 => ?_) (fun h e3 => ?_)
      · clear h
        subst e3
        have h := hh
        clear hh
        refine r_tsI (off := 66) mx_187 li_187_35 (by decide +kernel) (by decide +kernel) (by decide) rfl ?_
        refine EV_stq mx_187 (pc' := 103) (L' := [some (.ref p0), some (.int p1), some (.int p2), some (.int (3 : Int32)), some (.ref a4), some (.ref a12)]) (st' := [.ref a12]) bo_187_101_9e3292 rfl ?_
        refine r_gI mx_187 li_187_103 fd_13_199 ⟨by decide, by decide⟩ h (fun v17 h => ?_)
        obtain rfl := Option.some.inj h
        exact r_ret mx_187 li_187_106 rfl ro_int
      refine h_sw h (fun hh e4 => ?_) (fun h e4 => ?_)
      · clear h
        subst e4
        have h := hh
        clear hh
        refine r_tsI (off := 72) mx_187 li_187_35 (by decide +kernel) (by decide +kernel) (by decide) rfl ?_
        refine EV_stq mx_187 (pc' := 109) (L' := [some (.ref p0), some (.int p1), some (.int p2), some (.int (4 : Int32)), some (.ref a4), some (.ref a12)]) (st' := [.ref a12]) bo_187_107_0ab20e rfl ?_
        refine r_gI mx_187 li_187_109 fd_13_202 ⟨by decide, by decide⟩ h (fun v18 h => ?_)
        obtain rfl := Option.some.inj h
        exact r_ret mx_187 li_187_112 rfl ro_int
      refine h_sw h (fun hh e5 => ?_) (fun h e5 => ?_)
      · clear h
        subst e5
        have h := hh
        clear hh
        refine r_tsI (off := 78) mx_187 li_187_35 (by decide +kernel) (by decide +kernel) (by decide) rfl ?_
        refine EV_stq mx_187 (pc' := 116) (L' := [some (.ref p0), some (.int p1), some (.int p2), some (.int (5 : Int32)), some (.ref a4), some (.ref a12)]) (st' := [.int p2, .ref a4]) bo_187_113_55d908 rfl ?_
        refine h_ck h (fun hc h => ?_)
        refine h_cI h (fun v20 M19 e h => ?_)
        refine EV_call [.ref a4, .int p2] [] mx_187 li_187_116 rfl rfl si_13_205 rfl (by decide) (by decide) (by omega) ma_186 rfl (Nat.le_of_ble_eq_true rfl) rfl rfl (Nat.le_of_ble_eq_true rfl) (rc_1 mt_at_186 rfl rfl (by decide) hc) (e_op_keysOf (by omega) a4 p2 M10 _ e) ?_
        show EV d 187 119 [some (.ref p0), some (.int p1), some (.int p2), some (.int (5 : Int32)), some (.ref a4), some (.ref a12)] [.int v20] M19 _
        obtain rfl := Option.some.inj h
        exact r_ret mx_187 li_187_119 rfl ro_int
      refine r_tsD mx_187 li_187_35 (by have n0 := lv_neT e0 (a := 0) (by decide); have n1 := lv_neT e1 (a := 1) (by decide); have n2 := lv_neT e2 (a := 2) (by decide); have n3 := lv_neT e3 (a := 3) (by decide); have n4 := lv_neT e4 (a := 4) (by decide); have n5 := lv_neT e5 (a := 5) (by decide); omega) (by decide) rfl ?_
      refine EV_stq mx_187 (pc' := 122) (L' := [some (.ref p0), some (.int p1), some (.int p2), some (.int p3), some (.ref a4), some (.ref a12)]) (st' := [.int (-1000000002 : Int32)]) bo_187_120_9b2503 rfl ?_
      obtain rfl := Option.some.inj h
      exact r_ret mx_187 li_187_122 rfl ro_int
theorem e_m_keysOf_52 {d : Nat} (hd : 1 ≤ d) (k5 : Nat → Int32 → Int32 → Int32 → Int32 → Mem → Option (Int32 × Mem)) (hk5 : ∀ l0 l1 l2 l3 l4 M r, k5 l0 l1 l2 l3 l4 M = some r → EV d 188 5 [some (.ref l0), some (.int l1), some (.int l2), some (.int l3), some (.int l4)] [] M (some (.int r.1), r.2)) (l0 : Nat) (l1 : Int32) (l2 : Int32) (l4 : Int32) (s0 : Int32) (s1 : Int32) (M : Mem) (r : Int32 × Mem) (h : f_m_keysOf_52 k5 l0 l1 l2 l4 s0 s1 M = some r) : EV d 188 52 [some (.ref l0), some (.int l1), some (.int l2), none, some (.int l4)] [.int s0, .int s1] M (some (.int r.1), r.2) := by
  unfold f_m_keysOf_52 at h
  refine EV_stq mx_188 (pc' := 5) (L' := [some (.ref l0), some (.int l1), some (.int l2), some (.int (s1 + s0)), some (.int (l4 + (1 : Int32)))]) (st' := []) bo_188_52_ec7d93 rfl ?_
  exact hk5 l0 l1 l2 (s1 + s0) (l4 + (1 : Int32)) M r h
theorem e_m_keysOf_51 {d : Nat} (hd : 1 ≤ d) (k5 : Nat → Int32 → Int32 → Int32 → Int32 → Mem → Option (Int32 × Mem)) (hk5 : ∀ l0 l1 l2 l3 l4 M r, k5 l0 l1 l2 l3 l4 M = some r → EV d 188 5 [some (.ref l0), some (.int l1), some (.int l2), some (.int l3), some (.int l4)] [] M (some (.int r.1), r.2)) (l0 : Nat) (l1 : Int32) (l2 : Int32) (l4 : Int32) (s0 : Int32) (M : Mem) (r : Int32 × Mem) (h : f_m_keysOf_51 k5 l0 l1 l2 l4 s0 M = some r) : EV d 188 51 [some (.ref l0), some (.int l1), some (.int l2), none, some (.int l4)] [.int s0] M (some (.int r.1), r.2) := by
  unfold f_m_keysOf_51 at h
  refine EV_stq mx_188 (pc' := 52) (L' := [some (.ref l0), some (.int l1), some (.int l2), none, some (.int l4)]) (st' := [.int (0 : Int32), .int s0]) bo_188_51_93c172 rfl ?_
  exact e_m_keysOf_52 hd k5 hk5 l0 l1 l2 l4 (0 : Int32) s0 M r h
theorem e_m_keysOf_5 {d : Nat} (hd : 1 ≤ d) : ∀ (n : Nat) (l0 : Nat) (l1 : Int32) (l2 : Int32) (l3 : Int32) (l4 : Int32) (M : Mem) (r : Int32 × Mem), f_m_keysOf_5 n l0 l1 l2 l3 l4 M = some r → EV d 188 5 [some (.ref l0), some (.int l1), some (.int l2), some (.int l3), some (.int l4)] [] M (some (.int r.1), r.2) := by
  intro n
  induction n with
  | zero => intro l0 l1 l2 l3 l4 M r h; cases h
  | succ n ih =>
    intro l0 l1 l2 l3 l4 M r h
    unfold f_m_keysOf_5 at h
    refine EV_stq mx_188 (pc' := 9) (L' := [some (.ref l0), some (.int l1), some (.int l2), some (.int l3), some (.int l4)]) (st' := [.int (16 : Int32), .int l4]) bo_188_5_b1d84f rfl ?_
    refine h_ge h (fun h hc => ?_) (fun h hc => ?_)
    · refine r_icT mx_188 li_188_9 (by decide) rfl hc ?_
      refine EV_stq mx_188 (pc' := 61) (L' := [some (.ref l0), some (.int l1), some (.int l2), some (.int l3), some (.int l4)]) (st' := [.int l3]) bo_188_60_1be089 rfl ?_
      obtain rfl := Option.some.inj h
      exact r_ret mx_188 li_188_61 rfl ro_int
    · refine r_icF mx_188 li_188_9 (by decide) hc ?_
      refine EV_stq mx_188 (pc' := 14) (L' := [some (.ref l0), some (.int l1), some (.int l2), some (.int l3), some (.int l4)]) (st' := [.int l1, .ref l0]) bo_188_12_1089ca rfl ?_
      refine h_ck h (fun hc h => ?_)
      refine h_cI h (fun v2 M1 e h => ?_)
      refine EV_call [.ref l0, .int l1] [] mx_188 li_188_14 rfl rfl si_14_281 rfl (by decide) (by decide) (by omega) ma_142 rfl (Nat.le_of_ble_eq_true rfl) rfl rfl (Nat.le_of_ble_eq_true rfl) (rc_1 mt_at_142 rfl rfl (by decide) hc) (e_m_isKeyed (by omega) l0 l1 M _ e) ?_
      show EV d 188 17 [some (.ref l0), some (.int l1), some (.int l2), some (.int l3), some (.int l4)] [.int v2] M1 _
      refine h_eq h (fun h hc => ?_) (fun h hc => ?_)
      · refine r_ifT mx_188 li_188_17 (by decide) rfl hc ?_
        refine EV_stq mx_188 (pc' := 61) (L' := [some (.ref l0), some (.int l1), some (.int l2), some (.int l3), some (.int l4)]) (st' := [.int l3]) bo_188_60_1be089 rfl ?_
        obtain rfl := Option.some.inj h
        exact r_ret mx_188 li_188_61 rfl ro_int
      · refine r_ifF mx_188 li_188_17 (by decide) hc ?_
        refine EV_stq mx_188 (pc' := 22) (L' := [some (.ref l0), some (.int l1), some (.int l2), some (.int l3), some (.int l4)]) (st' := [.ref l0, .int l3]) bo_188_20_aa2fda rfl ?_
        refine r_gA mx_188 li_188_22 fd_14_56 rfl h (fun a3 h => ?_)
        refine EV_stq mx_188 (pc' := 32) (L' := [some (.ref l0), some (.int l1), some (.int l2), some (.int l3), some (.int l4)]) (st' := [.int (((16 : Int32) * l1) + l4), .ref a3, .int l3]) bo_188_25_964a1f rfl ?_
        refine r_aB mx_188 li_188_32 h (fun v4 h => ?_)
        refine h_eq h (fun h hc => ?_) (fun h hc => ?_)
        · refine r_ifT mx_188 li_188_33 (by decide) rfl hc ?_
          refine EV_forget (A := [some (.ref l0), some (.int l1), some (.int l2), none, some (.int l4)]) (lsub_of _ _ ⟨Or.inr rfl, ⟨Or.inr rfl, ⟨Or.inr rfl, ⟨Or.inl rfl, ⟨Or.inr rfl, trivial⟩⟩⟩⟩⟩) ?_
          exact e_m_keysOf_51 hd _ ih l0 l1 l2 l4 l3 M1 r h
        · refine r_ifF mx_188 li_188_33 (by decide) hc ?_
          refine EV_stq mx_188 (pc' := 40) (L' := [some (.ref l0), some (.int l1), some (.int l2), some (.int l3), some (.int l4)]) (st' := [.int l4, .int l1, .ref l0, .int l3]) bo_188_36_279f11 rfl ?_
          refine h_ck h (fun hc h => ?_)
          refine h_cI h (fun v6 M5 e h => ?_)
          refine EV_call [.ref l0, .int l1, .int l4] [.int l3] mx_188 li_188_40 rfl rfl si_14_285 rfl (by decide) (by decide) (by omega) ma_143 rfl (Nat.le_of_ble_eq_true rfl) rfl rfl (Nat.le_of_ble_eq_true rfl) (rc_1 mt_at_143 rfl rfl (by decide) hc) (e_m_home (by omega) l0 l1 l4 M1 _ e) ?_
          show EV d 188 43 [some (.ref l0), some (.int l1), some (.int l2), some (.int l3), some (.int l4)] [.int v6, .int l3] M5 _
          refine EV_stq mx_188 (pc' := 44) (L' := [some (.ref l0), some (.int l1), some (.int l2), some (.int l3), some (.int l4)]) (st' := [.int l2, .int v6, .int l3]) bo_188_43_d85b47 rfl ?_
          refine h_ne h (fun h hc => ?_) (fun h hc => ?_)
          · refine r_icF mx_188 li_188_44 (by decide) hc ?_
            refine EV_stq mx_188 (pc' := 52) (L' := [some (.ref l0), some (.int l1), some (.int l2), some (.int l3), some (.int l4)]) (st' := [.int (1 : Int32), .int l3]) bo_188_47_400428 rfl ?_
            refine EV_forget (A := [some (.ref l0), some (.int l1), some (.int l2), none, some (.int l4)]) (lsub_of _ _ ⟨Or.inr rfl, ⟨Or.inr rfl, ⟨Or.inr rfl, ⟨Or.inl rfl, ⟨Or.inr rfl, trivial⟩⟩⟩⟩⟩) ?_
            exact e_m_keysOf_52 hd _ ih l0 l1 l2 l4 (1 : Int32) l3 M5 r h
          · refine r_icT mx_188 li_188_44 (by decide) rfl hc ?_
            refine EV_forget (A := [some (.ref l0), some (.int l1), some (.int l2), none, some (.int l4)]) (lsub_of _ _ ⟨Or.inr rfl, ⟨Or.inr rfl, ⟨Or.inr rfl, ⟨Or.inl rfl, ⟨Or.inr rfl, trivial⟩⟩⟩⟩⟩) ?_
            exact e_m_keysOf_51 hd _ ih l0 l1 l2 l4 l3 M5 r h
theorem e_m_keysOf {d : Nat} (hd : 1 ≤ d) (p0 : Nat) (p1 : Int32) (p2 : Int32) (M : Mem) (r : Int32 × Mem) (h : f_m_keysOf p0 p1 p2 M = some r) : EV d 188 0 (entL 5 [.ref p0, .int p1, .int p2]) [] M (some (.int r.1), r.2) := by
  show EV d 188 0 [some (.ref p0), some (.int p1), some (.int p2), none, none] [] M _
  unfold f_m_keysOf at h
  refine EV_stq mx_188 (pc' := 5) (L' := [some (.ref p0), some (.int p1), some (.int p2), some (.int (0 : Int32)), some (.int (0 : Int32))]) (st' := []) bo_188_0_5a4d31 rfl ?_
  exact e_m_keysOf_5 hd FU p0 p1 p2 (0 : Int32) (0 : Int32) M r h
theorem e_m_instance {d : Nat} (hd : 2 ≤ d) (p0 : Nat) (p1 : Int32) (p2 : Int32) (p3 : Int32) (M : Mem) (r : Int32 × Mem) (h : f_m_instance p0 p1 p2 p3 M = some r) : EV d 189 0 (entL 5 [.ref p0, .int p1, .int p2, .int p3]) [] M (some (.int r.1), r.2) := by
  show EV d 189 0 [some (.ref p0), some (.int p1), some (.int p2), some (.int p3), none] [] M _
  unfold f_m_instance at h
  refine EV_stq mx_189 (pc' := 2) (L' := [some (.ref p0), some (.int p1), some (.int p2), some (.int p3), none]) (st' := [.int p1, .ref p0]) bo_189_0_264884 rfl ?_
  refine h_ck h (fun hc h => ?_)
  refine h_cI h (fun v2 M1 e h => ?_)
  refine EV_call [.ref p0, .int p1] [] mx_189 li_189_2 rfl rfl si_14_377 rfl (by decide) (by decide) (by omega) ma_177 rfl (Nat.le_of_ble_eq_true rfl) rfl rfl (Nat.le_of_ble_eq_true rfl) (rc_1 mt_at_177 rfl rfl (by decide) hc) (e_m_isOperator (by omega) p0 p1 M _ e) ?_
  show EV d 189 5 [some (.ref p0), some (.int p1), some (.int p2), some (.int p3), none] [.int v2] M1 _
  refine h_eq h (fun h hc => ?_) (fun h hc => ?_)
  · refine r_ifT mx_189 li_189_5 (by decide) rfl hc ?_
    refine EV_stq mx_189 (pc' := 27) (L' := [some (.ref p0), some (.int p1), some (.int p2), some (.int p3), none]) (st' := [.int (-1000000001 : Int32)]) bo_189_24_99aa1d rfl ?_
    obtain rfl := Option.some.inj h
    exact r_ret mx_189 li_189_27 rfl ro_int
  · refine r_ifF mx_189 li_189_5 (by decide) hc ?_
    refine EV_stq mx_189 (pc' := 11) (L' := [some (.ref p0), some (.int p1), some (.int p2), some (.int p3), none]) (st' := [.ref p0, .int (0 : Int32), .int p2]) bo_189_8_325fca rfl ?_
    refine r_gA mx_189 li_189_11 fd_14_22 rfl h (fun a3 h => ?_)
    refine EV_stq mx_189 (pc' := 15) (L' := [some (.ref p0), some (.int p1), some (.int p2), some (.int p3), none]) (st' := [.int p1, .ref a3, .int (0 : Int32), .int p2]) bo_189_14_3e81ce rfl ?_
    refine r_aI mx_189 li_189_15 h (fun v4 h => ?_)
    refine EV_stq mx_189 (pc' := 18) (L' := [some (.ref p0), some (.int p1), some (.int p2), some (.int p3), none]) (st' := [.int (v4 - (1 : Int32)), .int (0 : Int32), .int p2]) bo_189_16_f4f9fa rfl ?_
    refine h_cI h (fun v6 M5 e h => ?_)
    refine EV_call [.int p2, .int (0 : Int32), .int (v4 - (1 : Int32))] [] mx_189 li_189_18 rfl rfl si_14_203 rfl (by decide) (by decide) (by omega) ma_29 rfl (Nat.le_of_ble_eq_true rfl) rfl rfl (Nat.le_of_ble_eq_true rfl) rfl (e_m_isIn (by omega) p2 (0 : Int32) (v4 - (1 : Int32)) M1 _ e) ?_
    show EV d 189 21 [some (.ref p0), some (.int p1), some (.int p2), some (.int p3), none] [.int v6] M5 _
    refine h_ne h (fun h hc => ?_) (fun h hc => ?_)
    · refine r_ifF mx_189 li_189_21 (by decide) hc ?_
      refine EV_stq mx_189 (pc' := 27) (L' := [some (.ref p0), some (.int p1), some (.int p2), some (.int p3), none]) (st' := [.int (-1000000001 : Int32)]) bo_189_24_99aa1d rfl ?_
      obtain rfl := Option.some.inj h
      exact r_ret mx_189 li_189_27 rfl ro_int
    · refine r_ifT mx_189 li_189_21 (by decide) rfl hc ?_
      refine EV_stq mx_189 (pc' := 31) (L' := [some (.ref p0), some (.int p1), some (.int p2), some (.int p3), none]) (st' := [.int (5 : Int32), .int (0 : Int32), .int p3]) bo_189_28_6102be rfl ?_
      refine h_cI h (fun v8 M7 e h => ?_)
      refine EV_call [.int p3, .int (0 : Int32), .int (5 : Int32)] [] mx_189 li_189_31 rfl rfl si_14_203 rfl (by decide) (by decide) (by omega) ma_29 rfl (Nat.le_of_ble_eq_true rfl) rfl rfl (Nat.le_of_ble_eq_true rfl) rfl (e_m_isIn (by omega) p3 (0 : Int32) (5 : Int32) M5 _ e) ?_
      show EV d 189 34 [some (.ref p0), some (.int p1), some (.int p2), some (.int p3), none] [.int v8] M7 _
      refine h_ne h (fun h hc => ?_) (fun h hc => ?_)
      · refine r_ifF mx_189 li_189_34 (by decide) hc ?_
        refine EV_stq mx_189 (pc' := 39) (L' := [some (.ref p0), some (.int p1), some (.int p2), some (.int p3), none]) (st' := [.int (-1000000002 : Int32)]) bo_189_37_a21c9f rfl ?_
        obtain rfl := Option.some.inj h
        exact r_ret mx_189 li_189_39 rfl ro_int
      · refine r_ifT mx_189 li_189_34 (by decide) rfl hc ?_
        refine EV_stq mx_189 (pc' := 42) (L' := [some (.ref p0), some (.int p1), some (.int p2), some (.int p3), none]) (st' := [.int p2, .int p1]) bo_189_40_20557d rfl ?_
        refine h_cI h (fun v10 M9 e h => ?_)
        refine EV_call [.int p1, .int p2] [] mx_189 li_189_42 rfl rfl si_14_288 rfl (by decide) (by decide) (by omega) ma_141 rfl (Nat.le_of_ble_eq_true rfl) rfl rfl (Nat.le_of_ble_eq_true rfl) rfl (e_m_spot (by omega) p1 p2 M7 _ e) ?_
        show EV d 189 45 [some (.ref p0), some (.int p1), some (.int p2), some (.int p3), none] [.int v10] M9 _
        refine EV_stq mx_189 (pc' := 48) (L' := [some (.ref p0), some (.int p1), some (.int p2), some (.int p3), some (.int v10)]) (st' := [.int p3]) bo_189_45_179650 rfl ?_
        refine h_sw h (fun hh e0 => ?_) (fun h e0 => ?_)
        · clear h
          subst e0
          have h := hh
          clear hh
          refine r_tsI (off := 36) mx_189 li_189_48 (by decide +kernel) (by decide +kernel) (by decide) rfl ?_
          refine EV_stq mx_189 (pc' := 85) (L' := [some (.ref p0), some (.int p1), some (.int p2), some (.int (0 : Int32)), some (.int v10)]) (st' := [.ref p0]) bo_189_84_8a7630 rfl ?_
          refine r_gA mx_189 li_189_85 fd_14_93 rfl h (fun a11 h => ?_)
          refine EV_stq mx_189 (pc' := 90) (L' := [some (.ref p0), some (.int p1), some (.int p2), some (.int (0 : Int32)), some (.int v10)]) (st' := [.int v10, .ref a11]) bo_189_88_92252f rfl ?_
          refine r_aI mx_189 li_189_90 h (fun v12 h => ?_)
          obtain rfl := Option.some.inj h
          exact r_ret mx_189 li_189_91 rfl ro_int
        refine h_sw h (fun hh e1 => ?_) (fun h e1 => ?_)
        · clear h
          subst e1
          have h := hh
          clear hh
          refine r_tsI (off := 44) mx_189 li_189_48 (by decide +kernel) (by decide +kernel) (by decide) rfl ?_
          refine EV_stq mx_189 (pc' := 93) (L' := [some (.ref p0), some (.int p1), some (.int p2), some (.int (1 : Int32)), some (.int v10)]) (st' := [.ref p0]) bo_189_92_b12865 rfl ?_
          refine r_gA mx_189 li_189_93 fd_14_111 rfl h (fun a13 h => ?_)
          refine EV_stq mx_189 (pc' := 98) (L' := [some (.ref p0), some (.int p1), some (.int p2), some (.int (1 : Int32)), some (.int v10)]) (st' := [.int v10, .ref a13]) bo_189_96_2375ef rfl ?_
          refine r_aB mx_189 li_189_98 h (fun v14 h => ?_)
          refine h_eq h (fun h hc => ?_) (fun h hc => ?_)
          · refine r_ifT mx_189 li_189_99 (by decide) rfl hc ?_
            refine EV_stq mx_189 (pc' := 107) (L' := [some (.ref p0), some (.int p1), some (.int p2), some (.int (1 : Int32)), some (.int v10)]) (st' := [.int (0 : Int32)]) bo_189_106_d939f7 rfl ?_
            obtain rfl := Option.some.inj h
            exact r_ret mx_189 li_189_107 rfl ro_int
          · refine r_ifF mx_189 li_189_99 (by decide) hc ?_
            refine EV_stq mx_189 (pc' := 107) (L' := [some (.ref p0), some (.int p1), some (.int p2), some (.int (1 : Int32)), some (.int v10)]) (st' := [.int (1 : Int32)]) bo_189_102_036f47 rfl ?_
            obtain rfl := Option.some.inj h
            exact r_ret mx_189 li_189_107 rfl ro_int
        refine h_sw h (fun hh e2 => ?_) (fun h e2 => ?_)
        · clear h
          subst e2
          have h := hh
          clear hh
          refine r_tsI (off := 60) mx_189 li_189_48 (by decide +kernel) (by decide +kernel) (by decide) rfl ?_
          refine EV_stq mx_189 (pc' := 109) (L' := [some (.ref p0), some (.int p1), some (.int p2), some (.int (2 : Int32)), some (.int v10)]) (st' := [.ref p0]) bo_189_108_99d569 rfl ?_
          refine r_gA mx_189 li_189_109 fd_14_105 rfl h (fun a15 h => ?_)
          refine EV_stq mx_189 (pc' := 114) (L' := [some (.ref p0), some (.int p1), some (.int p2), some (.int (2 : Int32)), some (.int v10)]) (st' := [.int v10, .ref a15]) bo_189_112_a01649 rfl ?_
          refine r_aI mx_189 li_189_114 h (fun v16 h => ?_)
          obtain rfl := Option.some.inj h
          exact r_ret mx_189 li_189_115 rfl ro_int
        refine h_sw h (fun hh e3 => ?_) (fun h e3 => ?_)
        · clear h
          subst e3
          have h := hh
          clear hh
          refine r_tsI (off := 68) mx_189 li_189_48 (by decide +kernel) (by decide +kernel) (by decide) rfl ?_
          refine EV_stq mx_189 (pc' := 117) (L' := [some (.ref p0), some (.int p1), some (.int p2), some (.int (3 : Int32)), some (.int v10)]) (st' := [.ref p0]) bo_189_116_8dd5ec rfl ?_
          refine r_gA mx_189 li_189_117 fd_14_108 rfl h (fun a17 h => ?_)
          refine EV_stq mx_189 (pc' := 122) (L' := [some (.ref p0), some (.int p1), some (.int p2), some (.int (3 : Int32)), some (.int v10)]) (st' := [.int v10, .ref a17]) bo_189_120_9b2503 rfl ?_
          refine r_aI mx_189 li_189_122 h (fun v18 h => ?_)
          obtain rfl := Option.some.inj h
          exact r_ret mx_189 li_189_123 rfl ro_int
        refine h_sw h (fun hh e4 => ?_) (fun h e4 => ?_)
        · clear h
          subst e4
          have h := hh
          clear hh
          refine r_tsI (off := 76) mx_189 li_189_48 (by decide +kernel) (by decide +kernel) (by decide) rfl ?_
          refine EV_stq mx_189 (pc' := 125) (L' := [some (.ref p0), some (.int p1), some (.int p2), some (.int (4 : Int32)), some (.int v10)]) (st' := [.ref p0]) bo_189_124_f3e3e4 rfl ?_
          refine r_gA mx_189 li_189_125 fd_14_84 rfl h (fun a19 h => ?_)
          refine EV_stq mx_189 (pc' := 130) (L' := [some (.ref p0), some (.int p1), some (.int p2), some (.int (4 : Int32)), some (.int v10)]) (st' := [.int v10, .ref a19]) bo_189_128_5d5c9c rfl ?_
          refine r_aI mx_189 li_189_130 h (fun v20 h => ?_)
          obtain rfl := Option.some.inj h
          exact r_ret mx_189 li_189_131 rfl ro_int
        refine r_tsD mx_189 li_189_48 (by have n0 := lv_neT e0 (a := 0) (by decide); have n1 := lv_neT e1 (a := 1) (by decide); have n2 := lv_neT e2 (a := 2) (by decide); have n3 := lv_neT e3 (a := 3) (by decide); have n4 := lv_neT e4 (a := 4) (by decide); omega) (by decide) rfl ?_
        refine EV_stq mx_189 (pc' := 135) (L' := [some (.ref p0), some (.int p1), some (.int p2), some (.int p3), some (.int v10)]) (st' := [.int p2, .int p1, .ref p0]) bo_189_132_e981cf rfl ?_
        refine h_ck h (fun hc h => ?_)
        refine h_cI h (fun v22 M21 e h => ?_)
        refine EV_call [.ref p0, .int p1, .int p2] [] mx_189 li_189_135 rfl rfl si_14_383 rfl (by decide) (by decide) (by omega) ma_188 rfl (Nat.le_of_ble_eq_true rfl) rfl rfl (Nat.le_of_ble_eq_true rfl) (rc_1 mt_at_188 rfl rfl (by decide) hc) (e_m_keysOf (by omega) p0 p1 p2 M9 _ e) ?_
        show EV d 189 138 [some (.ref p0), some (.int p1), some (.int p2), some (.int p3), some (.int v10)] [.int v22] M21 _
        obtain rfl := Option.some.inj h
        exact r_ret mx_189 li_189_138 rfl ro_int
theorem e_x_channel {d : Nat} (hd : 2 ≤ d) (p0 : Nat) (p1 : Int32) (p2 : Int32) (p3 : Int32) (p4 : Int32) (M : Mem) (r : Int32 × Mem) (h : f_x_channel p0 p1 p2 p3 p4 M = some r) : EV d 190 0 (entL 6 [.ref p0, .int p1, .int p2, .int p3, .int p4]) [] M (some (.int r.1), r.2) := by
  show EV d 190 0 [some (.ref p0), some (.int p1), some (.int p2), some (.int p3), some (.int p4), none] [] M _
  unfold f_x_channel at h
  refine EV_stq mx_190 (pc' := 1) (L' := [some (.ref p0), some (.int p1), some (.int p2), some (.int p3), some (.int p4), none]) (st' := [.ref p0]) bo_190_0_8d5162 rfl ?_
  refine r_gA mx_190 li_190_1 fd_13_31 rfl h (fun a1 h => ?_)
  refine EV_stq mx_190 (pc' := 7) (L' := [some (.ref p0), some (.int p1), some (.int p2), some (.int p3), some (.int p4), none]) (st' := [.int p3, .int p2, .int p1, .ref a1]) bo_190_4_607491 rfl ?_
  refine h_ck h (fun hc h => ?_)
  refine h_cR h (fun o3 M2 e h => ?_)
  refine EV_call [.ref a1, .int p1, .int p2, .int p3] [] mx_190 li_190_7 rfl rfl si_13_209 rfl (by decide) (by decide) (by omega) ma_103 rfl (Nat.le_of_ble_eq_true rfl) rfl rfl (Nat.le_of_ble_eq_true rfl) (rc_1 mt_at_103 rfl rfl (by decide) hc) (e_sm_channelAt (by omega) a1 p1 p2 p3 M _ e) ?_
  refine h_onR (G := fun o => EV d 190 10 [some (.ref p0), some (.int p1), some (.int p2), some (.int p3), some (.int p4), none] [rfv o] M2 _) h (fun h => ?_) (fun a4 h => ?_)
  · refine EV_stq mx_190 (pc' := 19) (L' := [some (.ref p0), some (.int p1), some (.int p2), some (.int p3), some (.int p4), some (.null)]) (st' := [.int (-1000000001 : Int32)]) bo_190_10_e0bf99 rfl ?_
    obtain rfl := Option.some.inj h
    exact r_ret mx_190 li_190_19 rfl ro_int
  · refine EV_stq mx_190 (pc' := 22) (L' := [some (.ref p0), some (.int p1), some (.int p2), some (.int p3), some (.int p4), some (.ref a4)]) (st' := [.int p4]) bo_190_10_ff3309 rfl ?_
    refine h_sw h (fun hh e0 => ?_) (fun h e0 => ?_)
    · clear h
      subst e0
      have h := hh
      clear hh
      refine r_tsI (off := 34) mx_190 li_190_22 (by decide +kernel) (by decide +kernel) (by decide) rfl ?_
      refine EV_stq mx_190 (pc' := 58) (L' := [some (.ref p0), some (.int p1), some (.int p2), some (.int p3), some (.int (0 : Int32)), some (.ref a4)]) (st' := [.ref a4]) bo_190_56_350148 rfl ?_
      refine r_gI mx_190 li_190_58 fd_13_213 ⟨by decide, by decide⟩ h (fun v5 h => ?_)
      obtain rfl := Option.some.inj h
      exact r_ret mx_190 li_190_61 rfl ro_int
    refine h_sw h (fun hh e1 => ?_) (fun h e1 => ?_)
    · clear h
      subst e1
      have h := hh
      clear hh
      refine r_tsI (off := 40) mx_190 li_190_22 (by decide +kernel) (by decide +kernel) (by decide) rfl ?_
      refine EV_stq mx_190 (pc' := 64) (L' := [some (.ref p0), some (.int p1), some (.int p2), some (.int p3), some (.int (1 : Int32)), some (.ref a4)]) (st' := [.ref a4]) bo_190_62_13a257 rfl ?_
      refine r_gI mx_190 li_190_64 fd_13_218 ⟨by decide, by decide⟩ h (fun v6 h => ?_)
      obtain rfl := Option.some.inj h
      exact r_ret mx_190 li_190_67 rfl ro_int
    refine h_sw h (fun hh e2 => ?_) (fun h e2 => ?_)
    · clear h
      subst e2
      have h := hh
      clear hh
      refine r_tsI (off := 46) mx_190 li_190_22 (by decide +kernel) (by decide +kernel) (by decide) rfl ?_
      refine EV_stq mx_190 (pc' := 70) (L' := [some (.ref p0), some (.int p1), some (.int p2), some (.int p3), some (.int (2 : Int32)), some (.ref a4)]) (st' := [.ref a4]) bo_190_68_7584e0 rfl ?_
      refine r_gA mx_190 li_190_70 fd_13_221 rfl h (fun a7 h => ?_)
      refine r_gI mx_190 li_190_73 fd_13_105 ⟨by decide, by decide⟩ h (fun v8 h => ?_)
      obtain rfl := Option.some.inj h
      exact r_ret mx_190 li_190_76 rfl ro_int
    refine h_sw h (fun hh e3 => ?_) (fun h e3 => ?_)
    · clear h
      subst e3
      have h := hh
      clear hh
      refine r_tsI (off := 55) mx_190 li_190_22 (by decide +kernel) (by decide +kernel) (by decide) rfl ?_
      refine EV_stq mx_190 (pc' := 79) (L' := [some (.ref p0), some (.int p1), some (.int p2), some (.int p3), some (.int (3 : Int32)), some (.ref a4)]) (st' := [.ref a4]) bo_190_77_9a98ff rfl ?_
      refine r_gI mx_190 li_190_79 fd_13_224 ⟨by decide, by decide⟩ h (fun v9 h => ?_)
      obtain rfl := Option.some.inj h
      exact r_ret mx_190 li_190_82 rfl ro_int
    refine h_sw h (fun hh e4 => ?_) (fun h e4 => ?_)
    · clear h
      subst e4
      have h := hh
      clear hh
      refine r_tsI (off := 61) mx_190 li_190_22 (by decide +kernel) (by decide +kernel) (by decide) rfl ?_
      refine EV_stq mx_190 (pc' := 84) (L' := [some (.ref p0), some (.int p1), some (.int p2), some (.int p3), some (.int (4 : Int32)), some (.ref a4)]) (st' := [.ref p0]) bo_190_83_dbc641 rfl ?_
      refine r_gA mx_190 li_190_84 fd_13_31 rfl h (fun a10 h => ?_)
      refine r_gA mx_190 li_190_87 fd_13_88 rfl h (fun a11 h => ?_)
      refine r_gI mx_190 li_190_90 fd_13_227 ⟨by decide, by decide⟩ h (fun v12 h => ?_)
      refine EV_stq mx_190 (pc' := 95) (L' := [some (.ref p0), some (.int p1), some (.int p2), some (.int p3), some (.int (4 : Int32)), some (.ref a4)]) (st' := [.ref a4, .int v12]) bo_190_93_7021a1 rfl ?_
      refine r_gI mx_190 li_190_95 fd_13_213 ⟨by decide, by decide⟩ h (fun v13 h => ?_)
      refine EV_stq mx_190 (pc' := 99) (L' := [some (.ref p0), some (.int p1), some (.int p2), some (.int p3), some (.int (4 : Int32)), some (.ref a4)]) (st' := [.int (v12 - v13)]) bo_190_98_9ec1f3 rfl ?_
      obtain rfl := Option.some.inj h
      exact r_ret mx_190 li_190_99 rfl ro_int
    refine r_tsD mx_190 li_190_22 (by have n0 := lv_neT e0 (a := 0) (by decide); have n1 := lv_neT e1 (a := 1) (by decide); have n2 := lv_neT e2 (a := 2) (by decide); have n3 := lv_neT e3 (a := 3) (by decide); have n4 := lv_neT e4 (a := 4) (by decide); omega) (by decide) rfl ?_
    refine EV_stq mx_190 (pc' := 102) (L' := [some (.ref p0), some (.int p1), some (.int p2), some (.int p3), some (.int p4), some (.ref a4)]) (st' := [.int (-1000000002 : Int32)]) bo_190_100_5dd146 rfl ?_
    obtain rfl := Option.some.inj h
    exact r_ret mx_190 li_190_102 rfl ro_int
theorem e_m_channel {d : Nat} (hd : 1 ≤ d) (p0 : Nat) (p1 : Int32) (p2 : Int32) (p3 : Int32) (p4 : Int32) (M : Mem) (r : Int32 × Mem) (h : f_m_channel p0 p1 p2 p3 p4 M = some r) : EV d 191 0 (entL 6 [.ref p0, .int p1, .int p2, .int p3, .int p4]) [] M (some (.int r.1), r.2) := by
  show EV d 191 0 [some (.ref p0), some (.int p1), some (.int p2), some (.int p3), some (.int p4), none] [] M _
  unfold f_m_channel at h
  refine EV_stq mx_191 (pc' := 3) (L' := [some (.ref p0), some (.int p1), some (.int p2), some (.int p3), some (.int p4), none]) (st' := [.ref p0, .int (0 : Int32), .int p1]) bo_191_0_8b3750 rfl ?_
  refine r_gI mx_191 li_191_3 fd_14_196 ⟨by decide, by decide⟩ h (fun v1 h => ?_)
  refine h_cI h (fun v3 M2 e h => ?_)
  refine EV_call [.int p1, .int (0 : Int32), .int v1] [] mx_191 li_191_6 rfl rfl si_14_203 rfl (by decide) (by decide) (by omega) ma_29 rfl (Nat.le_of_ble_eq_true rfl) rfl rfl (Nat.le_of_ble_eq_true rfl) rfl (e_m_isIn (by omega) p1 (0 : Int32) v1 M _ e) ?_
  show EV d 191 9 [some (.ref p0), some (.int p1), some (.int p2), some (.int p3), some (.int p4), none] [.int v3] M2 _
  refine h_eq h (fun h hc => ?_) (fun h hc => ?_)
  · refine r_ifT mx_191 li_191_9 (by decide) rfl hc ?_
    refine EV_stq mx_191 (pc' := 49) (L' := [some (.ref p0), some (.int p1), some (.int p2), some (.int p3), some (.int p4), none]) (st' := [.int (-1000000001 : Int32)]) bo_191_46_4b02d4 rfl ?_
    obtain rfl := Option.some.inj h
    exact r_ret mx_191 li_191_49 rfl ro_int
  · refine r_ifF mx_191 li_191_9 (by decide) hc ?_
    refine EV_stq mx_191 (pc' := 15) (L' := [some (.ref p0), some (.int p1), some (.int p2), some (.int p3), some (.int p4), none]) (st' := [.ref p0, .int (0 : Int32), .int p2]) bo_191_12_76c768 rfl ?_
    refine r_gA mx_191 li_191_15 fd_14_22 rfl h (fun a4 h => ?_)
    refine EV_stq mx_191 (pc' := 19) (L' := [some (.ref p0), some (.int p1), some (.int p2), some (.int p3), some (.int p4), none]) (st' := [.int p1, .ref a4, .int (0 : Int32), .int p2]) bo_191_18_2b31d8 rfl ?_
    refine r_aI mx_191 li_191_19 h (fun v5 h => ?_)
    refine EV_stq mx_191 (pc' := 22) (L' := [some (.ref p0), some (.int p1), some (.int p2), some (.int p3), some (.int p4), none]) (st' := [.int (v5 - (1 : Int32)), .int (0 : Int32), .int p2]) bo_191_20_aa2fda rfl ?_
    refine h_cI h (fun v7 M6 e h => ?_)
    refine EV_call [.int p2, .int (0 : Int32), .int (v5 - (1 : Int32))] [] mx_191 li_191_22 rfl rfl si_14_203 rfl (by decide) (by decide) (by omega) ma_29 rfl (Nat.le_of_ble_eq_true rfl) rfl rfl (Nat.le_of_ble_eq_true rfl) rfl (e_m_isIn (by omega) p2 (0 : Int32) (v5 - (1 : Int32)) M2 _ e) ?_
    show EV d 191 25 [some (.ref p0), some (.int p1), some (.int p2), some (.int p3), some (.int p4), none] [.int v7] M6 _
    refine h_eq h (fun h hc => ?_) (fun h hc => ?_)
    · refine r_ifT mx_191 li_191_25 (by decide) rfl hc ?_
      refine EV_stq mx_191 (pc' := 49) (L' := [some (.ref p0), some (.int p1), some (.int p2), some (.int p3), some (.int p4), none]) (st' := [.int (-1000000001 : Int32)]) bo_191_46_4b02d4 rfl ?_
      obtain rfl := Option.some.inj h
      exact r_ret mx_191 li_191_49 rfl ro_int
    · refine r_ifF mx_191 li_191_25 (by decide) hc ?_
      refine EV_stq mx_191 (pc' := 31) (L' := [some (.ref p0), some (.int p1), some (.int p2), some (.int p3), some (.int p4), none]) (st' := [.ref p0, .int (0 : Int32), .int p3]) bo_191_28_6102be rfl ?_
      refine r_gA mx_191 li_191_31 fd_14_22 rfl h (fun a8 h => ?_)
      refine EV_stq mx_191 (pc' := 37) (L' := [some (.ref p0), some (.int p1), some (.int p2), some (.int p3), some (.int p4), none]) (st' := [.int (p1 + (1 : Int32)), .ref a8, .int (0 : Int32), .int p3]) bo_191_34_8fe73d rfl ?_
      refine r_aI mx_191 li_191_37 h (fun v9 h => ?_)
      refine EV_stq mx_191 (pc' := 40) (L' := [some (.ref p0), some (.int p1), some (.int p2), some (.int p3), some (.int p4), none]) (st' := [.int (v9 - (1 : Int32)), .int (0 : Int32), .int p3]) bo_191_38_ef227d rfl ?_
      refine h_cI h (fun v11 M10 e h => ?_)
      refine EV_call [.int p3, .int (0 : Int32), .int (v9 - (1 : Int32))] [] mx_191 li_191_40 rfl rfl si_14_203 rfl (by decide) (by decide) (by omega) ma_29 rfl (Nat.le_of_ble_eq_true rfl) rfl rfl (Nat.le_of_ble_eq_true rfl) rfl (e_m_isIn (by omega) p3 (0 : Int32) (v9 - (1 : Int32)) M6 _ e) ?_
      show EV d 191 43 [some (.ref p0), some (.int p1), some (.int p2), some (.int p3), some (.int p4), none] [.int v11] M10 _
      refine h_ne h (fun h hc => ?_) (fun h hc => ?_)
      · refine r_ifF mx_191 li_191_43 (by decide) hc ?_
        refine EV_stq mx_191 (pc' := 49) (L' := [some (.ref p0), some (.int p1), some (.int p2), some (.int p3), some (.int p4), none]) (st' := [.int (-1000000001 : Int32)]) bo_191_46_4b02d4 rfl ?_
        obtain rfl := Option.some.inj h
        exact r_ret mx_191 li_191_49 rfl ro_int
      · refine r_ifT mx_191 li_191_43 (by decide) rfl hc ?_
        refine EV_stq mx_191 (pc' := 54) (L' := [some (.ref p0), some (.int p1), some (.int p2), some (.int p3), some (.int p4), none]) (st' := [.int (4 : Int32), .int (0 : Int32), .int p4]) bo_191_50_566217 rfl ?_
        refine h_cI h (fun v13 M12 e h => ?_)
        refine EV_call [.int p4, .int (0 : Int32), .int (4 : Int32)] [] mx_191 li_191_54 rfl rfl si_14_203 rfl (by decide) (by decide) (by omega) ma_29 rfl (Nat.le_of_ble_eq_true rfl) rfl rfl (Nat.le_of_ble_eq_true rfl) rfl (e_m_isIn (by omega) p4 (0 : Int32) (4 : Int32) M10 _ e) ?_
        show EV d 191 57 [some (.ref p0), some (.int p1), some (.int p2), some (.int p3), some (.int p4), none] [.int v13] M12 _
        refine h_ne h (fun h hc => ?_) (fun h hc => ?_)
        · refine r_ifF mx_191 li_191_57 (by decide) hc ?_
          refine EV_stq mx_191 (pc' := 62) (L' := [some (.ref p0), some (.int p1), some (.int p2), some (.int p3), some (.int p4), none]) (st' := [.int (-1000000002 : Int32)]) bo_191_60_1be089 rfl ?_
          obtain rfl := Option.some.inj h
          exact r_ret mx_191 li_191_62 rfl ro_int
        · refine r_ifT mx_191 li_191_57 (by decide) rfl hc ?_
          refine EV_stq mx_191 (pc' := 66) (L' := [some (.ref p0), some (.int p1), some (.int p2), some (.int p3), some (.int p4), none]) (st' := [.int p3, .int p2, .int p1]) bo_191_63_f9b671 rfl ?_
          refine h_cI h (fun v15 M14 e h => ?_)
          refine EV_call [.int p1, .int p2, .int p3] [] mx_191 li_191_66 rfl rfl si_14_324 rfl (by decide) (by decide) (by omega) ma_145 rfl (Nat.le_of_ble_eq_true rfl) rfl rfl (Nat.le_of_ble_eq_true rfl) rfl (e_m_line (by omega) p1 p2 p3 M12 _ e) ?_
          show EV d 191 69 [some (.ref p0), some (.int p1), some (.int p2), some (.int p3), some (.int p4), none] [.int v15] M14 _
          refine EV_stq mx_191 (pc' := 73) (L' := [some (.ref p0), some (.int p1), some (.int p2), some (.int p3), some (.int p4), some (.int v15)]) (st' := [.int p4]) bo_191_69_8c58f6 rfl ?_
          refine h_ne h (fun h hc => ?_) (fun h hc => ?_)
          · refine r_ifF mx_191 li_191_73 (by decide) hc ?_
            refine EV_stq mx_191 (pc' := 77) (L' := [some (.ref p0), some (.int p1), some (.int p2), some (.int p3), some (.int p4), some (.int v15)]) (st' := [.ref p0]) bo_191_76_1522cc rfl ?_
            refine r_gA mx_191 li_191_77 fd_14_129 rfl h (fun a25 h => ?_)
            refine EV_stq mx_191 (pc' := 82) (L' := [some (.ref p0), some (.int p1), some (.int p2), some (.int p3), some (.int p4), some (.int v15)]) (st' := [.int v15, .ref a25]) bo_191_80_1d0e60 rfl ?_
            refine r_aI mx_191 li_191_82 h (fun v26 h => ?_)
            refine EV_stq mx_191 (pc' := 145) (L' := [some (.ref p0), some (.int p1), some (.int p2), some (.int p3), some (.int p4), some (.int v15)]) (st' := [.int v26]) bo_191_83_dbc641 rfl ?_
            obtain rfl := Option.some.inj h
            exact r_ret mx_191 li_191_145 rfl ro_int
          · refine r_ifT mx_191 li_191_73 (by decide) rfl hc ?_
            refine EV_stq mx_191 (pc' := 89) (L' := [some (.ref p0), some (.int p1), some (.int p2), some (.int p3), some (.int p4), some (.int v15)]) (st' := [.int (1 : Int32), .int p4]) bo_191_86_edb1b1 rfl ?_
            refine h_ne h (fun h hc => ?_) (fun h hc => ?_)
            · refine r_icF mx_191 li_191_89 (by decide) hc ?_
              refine EV_stq mx_191 (pc' := 93) (L' := [some (.ref p0), some (.int p1), some (.int p2), some (.int p3), some (.int p4), some (.int v15)]) (st' := [.ref p0]) bo_191_92_b12865 rfl ?_
              refine r_gA mx_191 li_191_93 fd_14_114 rfl h (fun a23 h => ?_)
              refine EV_stq mx_191 (pc' := 98) (L' := [some (.ref p0), some (.int p1), some (.int p2), some (.int p3), some (.int p4), some (.int v15)]) (st' := [.int v15, .ref a23]) bo_191_96_2375ef rfl ?_
              refine r_aI mx_191 li_191_98 h (fun v24 h => ?_)
              refine EV_stq mx_191 (pc' := 145) (L' := [some (.ref p0), some (.int p1), some (.int p2), some (.int p3), some (.int p4), some (.int v15)]) (st' := [.int v24]) bo_191_99_e6cd5c rfl ?_
              obtain rfl := Option.some.inj h
              exact r_ret mx_191 li_191_145 rfl ro_int
            · refine r_icT mx_191 li_191_89 (by decide) rfl hc ?_
              refine EV_stq mx_191 (pc' := 105) (L' := [some (.ref p0), some (.int p1), some (.int p2), some (.int p3), some (.int p4), some (.int v15)]) (st' := [.int (2 : Int32), .int p4]) bo_191_102_95c474 rfl ?_
              refine h_ne h (fun h hc => ?_) (fun h hc => ?_)
              · refine r_icF mx_191 li_191_105 (by decide) hc ?_
                refine EV_stq mx_191 (pc' := 111) (L' := [some (.ref p0), some (.int p1), some (.int p2), some (.int p3), some (.int p4), some (.int v15)]) (st' := [.int v15, .ref p0]) bo_191_108_15ff6a rfl ?_
                refine h_ck h (fun hc h => ?_)
                refine h_cI h (fun v22 M21 e h => ?_)
                refine EV_call [.ref p0, .int v15] [] mx_191 li_191_111 rfl rfl si_14_380 rfl (by decide) (by decide) (by omega) ma_182 rfl (Nat.le_of_ble_eq_true rfl) rfl rfl (Nat.le_of_ble_eq_true rfl) (rc_1 mt_at_182 rfl rfl (by decide) hc) (e_m_inside (by omega) p0 v15 M14 _ e) ?_
                show EV d 191 114 [some (.ref p0), some (.int p1), some (.int p2), some (.int p3), some (.int p4), some (.int v15)] [.int v22] M21 _
                refine EV_stq mx_191 (pc' := 145) (L' := [some (.ref p0), some (.int p1), some (.int p2), some (.int p3), some (.int p4), some (.int v15)]) (st' := [.int v22]) bo_191_114_28d19b rfl ?_
                obtain rfl := Option.some.inj h
                exact r_ret mx_191 li_191_145 rfl ro_int
              · refine r_icT mx_191 li_191_105 (by decide) rfl hc ?_
                refine EV_stq mx_191 (pc' := 120) (L' := [some (.ref p0), some (.int p1), some (.int p2), some (.int p3), some (.int p4), some (.int v15)]) (st' := [.int (3 : Int32), .int p4]) bo_191_117_5014aa rfl ?_
                refine h_ne h (fun h hc => ?_) (fun h hc => ?_)
                · refine r_icF mx_191 li_191_120 (by decide) hc ?_
                  refine EV_stq mx_191 (pc' := 124) (L' := [some (.ref p0), some (.int p1), some (.int p2), some (.int p3), some (.int p4), some (.int v15)]) (st' := [.ref p0]) bo_191_123_4951b9 rfl ?_
                  refine r_gA mx_191 li_191_124 fd_14_117 rfl h (fun a19 h => ?_)
                  refine EV_stq mx_191 (pc' := 129) (L' := [some (.ref p0), some (.int p1), some (.int p2), some (.int p3), some (.int p4), some (.int v15)]) (st' := [.int v15, .ref a19]) bo_191_127_244a0d rfl ?_
                  refine r_aI mx_191 li_191_129 h (fun v20 h => ?_)
                  refine EV_stq mx_191 (pc' := 145) (L' := [some (.ref p0), some (.int p1), some (.int p2), some (.int p3), some (.int p4), some (.int v15)]) (st' := [.int v20]) bo_191_130_8e4770 rfl ?_
                  obtain rfl := Option.some.inj h
                  exact r_ret mx_191 li_191_145 rfl ro_int
                · refine r_icT mx_191 li_191_120 (by decide) rfl hc ?_
                  refine EV_stq mx_191 (pc' := 134) (L' := [some (.ref p0), some (.int p1), some (.int p2), some (.int p3), some (.int p4), some (.int v15)]) (st' := [.ref p0]) bo_191_133_fe448f rfl ?_
                  refine r_gI mx_191 li_191_134 fd_14_32 ⟨by decide, by decide⟩ h (fun v16 h => ?_)
                  refine EV_stq mx_191 (pc' := 138) (L' := [some (.ref p0), some (.int p1), some (.int p2), some (.int p3), some (.int p4), some (.int v15)]) (st' := [.ref p0, .int v16]) bo_191_137_1c181f rfl ?_
                  refine r_gA mx_191 li_191_138 fd_14_129 rfl h (fun a17 h => ?_)
                  refine EV_stq mx_191 (pc' := 143) (L' := [some (.ref p0), some (.int p1), some (.int p2), some (.int p3), some (.int p4), some (.int v15)]) (st' := [.int v15, .ref a17, .int v16]) bo_191_141_b0c808 rfl ?_
                  refine r_aI mx_191 li_191_143 h (fun v18 h => ?_)
                  refine EV_stq mx_191 (pc' := 145) (L' := [some (.ref p0), some (.int p1), some (.int p2), some (.int p3), some (.int p4), some (.int v15)]) (st' := [.int (v16 - v18)]) bo_191_144_163ff6 rfl ?_
                  obtain rfl := Option.some.inj h
                  exact r_ret mx_191 li_191_145 rfl ro_int
theorem e_x_numberOf_33 {d : Nat} (hd : 1 ≤ d) (l0 : Nat) (l1 : Int32) (l2 : Int32) (M : Mem) (r : Int32 × Mem) (h : f_x_numberOf_33 l0 l1 l2 M = some r) : EV d 192 33 [some (.ref l0), some (.int l1), some (.int l2)] [] M (some (.int r.1), r.2) := by
  unfold f_x_numberOf_33 at h
  refine EV_stq mx_192 (pc' := 34) (L' := [some (.ref l0), some (.int l1), some (.int l2)]) (st' := [.int l2]) bo_192_33_1dc721 rfl ?_
  refine h_ne h (fun h hc => ?_) (fun h hc => ?_)
  · refine r_ifF mx_192 li_192_34 (by decide) hc ?_
    refine EV_stq mx_192 (pc' := 39) (L' := [some (.ref l0), some (.int l1), some (.int l2)]) (st' := [.int l1, .ref l0]) bo_192_37_b7e9cc rfl ?_
    refine h_ck h (fun hc h => ?_)
    refine h_cI h (fun v4 M3 e h => ?_)
    refine EV_call [.ref l0, .int l1] [] mx_192 li_192_39 rfl rfl si_13_301 rfl (by decide) (by decide) (by omega) ma_125 rfl (Nat.le_of_ble_eq_true rfl) rfl rfl (Nat.le_of_ble_eq_true rfl) (rc_1 mt_at_125 rfl rfl (by decide) hc) (e_ky_firstOf (by omega) l0 l1 M _ e) ?_
    show EV d 192 42 [some (.ref l0), some (.int l1), some (.int l2)] [.int v4] M3 _
    refine EV_stq mx_192 (pc' := 50) (L' := [some (.ref l0), some (.int l1), some (.int l2)]) (st' := [.int v4]) bo_192_42_b358e7 rfl ?_
    obtain rfl := Option.some.inj h
    exact r_ret mx_192 li_192_50 rfl ro_int
  · refine r_ifT mx_192 li_192_34 (by decide) rfl hc ?_
    refine EV_stq mx_192 (pc' := 47) (L' := [some (.ref l0), some (.int l1), some (.int l2)]) (st' := [.int l1, .ref l0]) bo_192_45_b7d017 rfl ?_
    refine h_ck h (fun hc h => ?_)
    refine h_cI h (fun v2 M1 e h => ?_)
    refine EV_call [.ref l0, .int l1] [] mx_192 li_192_47 rfl rfl si_13_304 rfl (by decide) (by decide) (by omega) ma_126 rfl (Nat.le_of_ble_eq_true rfl) rfl rfl (Nat.le_of_ble_eq_true rfl) (rc_1 mt_at_126 rfl rfl (by decide) hc) (e_ky_secondOf (by omega) l0 l1 M _ e) ?_
    show EV d 192 50 [some (.ref l0), some (.int l1), some (.int l2)] [.int v2] M1 _
    obtain rfl := Option.some.inj h
    exact r_ret mx_192 li_192_50 rfl ro_int
theorem e_x_numberOf {d : Nat} (hd : 1 ≤ d) (p0 : Nat) (p1 : Int32) (p2 : Int32) (M : Mem) (r : Int32 × Mem) (h : f_x_numberOf p0 p1 p2 M = some r) : EV d 192 0 (entL 3 [.ref p0, .int p1, .int p2]) [] M (some (.int r.1), r.2) := by
  show EV d 192 0 [some (.ref p0), some (.int p1), some (.int p2)] [] M _
  unfold f_x_numberOf at h
  refine EV_stq mx_192 (pc' := 1) (L' := [some (.ref p0), some (.int p1), some (.int p2)]) (st' := [.int p1]) bo_192_0_8d5162 rfl ?_
  refine h_lt h (fun h hc => ?_) (fun h hc => ?_)
  · refine r_ifT mx_192 li_192_1 (by decide) rfl hc ?_
    refine EV_stq mx_192 (pc' := 20) (L' := [some (.ref p0), some (.int p1), some (.int p2)]) (st' := [.int (-1000000001 : Int32)]) bo_192_18_2b31d8 rfl ?_
    obtain rfl := Option.some.inj h
    exact r_ret mx_192 li_192_20 rfl ro_int
  · refine r_ifF mx_192 li_192_1 (by decide) hc ?_
    refine EV_stq mx_192 (pc' := 7) (L' := [some (.ref p0), some (.int p1), some (.int p2)]) (st' := [.int (16 : Int32), .int p1]) bo_192_4_40e659 rfl ?_
    refine h_ge h (fun h hc => ?_) (fun h hc => ?_)
    · refine r_icT mx_192 li_192_7 (by decide) rfl hc ?_
      refine EV_stq mx_192 (pc' := 20) (L' := [some (.ref p0), some (.int p1), some (.int p2)]) (st' := [.int (-1000000001 : Int32)]) bo_192_18_2b31d8 rfl ?_
      obtain rfl := Option.some.inj h
      exact r_ret mx_192 li_192_20 rfl ro_int
    · refine r_icF mx_192 li_192_7 (by decide) hc ?_
      refine EV_stq mx_192 (pc' := 12) (L' := [some (.ref p0), some (.int p1), some (.int p2)]) (st' := [.int p1, .ref p0]) bo_192_10_42a704 rfl ?_
      refine h_ck h (fun hc h => ?_)
      refine h_cI h (fun v2 M1 e h => ?_)
      refine EV_call [.ref p0, .int p1] [] mx_192 li_192_12 rfl rfl si_13_295 rfl (by decide) (by decide) (by omega) ma_130 rfl (Nat.le_of_ble_eq_true rfl) rfl rfl (Nat.le_of_ble_eq_true rfl) (rc_1 mt_at_130 rfl rfl (by decide) hc) (e_ky_has (by omega) p0 p1 M _ e) ?_
      show EV d 192 15 [some (.ref p0), some (.int p1), some (.int p2)] [.int v2] M1 _
      refine h_ne h (fun h hc => ?_) (fun h hc => ?_)
      · refine r_ifF mx_192 li_192_15 (by decide) hc ?_
        refine EV_stq mx_192 (pc' := 20) (L' := [some (.ref p0), some (.int p1), some (.int p2)]) (st' := [.int (-1000000001 : Int32)]) bo_192_18_2b31d8 rfl ?_
        obtain rfl := Option.some.inj h
        exact r_ret mx_192 li_192_20 rfl ro_int
      · refine r_ifT mx_192 li_192_15 (by decide) rfl hc ?_
        refine EV_stq mx_192 (pc' := 22) (L' := [some (.ref p0), some (.int p1), some (.int p2)]) (st' := [.int p2]) bo_192_21_46c79c rfl ?_
        refine h_eq h (fun h hc => ?_) (fun h hc => ?_)
        · refine r_ifT mx_192 li_192_22 (by decide) rfl hc ?_
          exact e_x_numberOf_33 hd p0 p1 p2 M1 r h
        · refine r_ifF mx_192 li_192_22 (by decide) hc ?_
          refine EV_stq mx_192 (pc' := 27) (L' := [some (.ref p0), some (.int p1), some (.int p2)]) (st' := [.int (1 : Int32), .int p2]) bo_192_25_6328ed rfl ?_
          refine h_eq h (fun h hc => ?_) (fun h hc => ?_)
          · refine r_icT mx_192 li_192_27 (by decide) rfl hc ?_
            exact e_x_numberOf_33 hd p0 p1 p2 M1 r h
          · refine r_icF mx_192 li_192_27 (by decide) hc ?_
            refine EV_stq mx_192 (pc' := 32) (L' := [some (.ref p0), some (.int p1), some (.int p2)]) (st' := [.int (-1000000002 : Int32)]) bo_192_30_0b4e4a rfl ?_
            obtain rfl := Option.some.inj h
            exact r_ret mx_192 li_192_32 rfl ro_int
theorem e_x_state {d : Nat} (hd : 2 ≤ d) (p0 : Nat) (p1 : Int32) (p2 : Int32) (p3 : Int32) (M : Mem) (r : Int32 × Mem) (h : f_x_state p0 p1 p2 p3 M = some r) : EV d 193 0 (entL 5 [.ref p0, .int p1, .int p2, .int p3]) [] M (some (.int r.1), r.2) := by
  show EV d 193 0 [some (.ref p0), some (.int p1), some (.int p2), some (.int p3), none] [] M _
  unfold f_x_state at h
  refine EV_stq mx_193 (pc' := 1) (L' := [some (.ref p0), some (.int p1), some (.int p2), some (.int p3), none]) (st' := [.ref p0]) bo_193_0_8d5162 rfl ?_
  refine r_gA mx_193 li_193_1 fd_13_31 rfl h (fun a1 h => ?_)
  refine EV_stq mx_193 (pc' := 5) (L' := [some (.ref p0), some (.int p1), some (.int p2), some (.int p3), none]) (st' := [.int p1, .ref a1]) bo_193_4_e962e2 rfl ?_
  refine h_ck h (fun hc h => ?_)
  refine h_cR h (fun o3 M2 e h => ?_)
  refine EV_call [.ref a1, .int p1] [] mx_193 li_193_5 rfl rfl si_13_133 rfl (by decide) (by decide) (by omega) ma_56 rfl (Nat.le_of_ble_eq_true rfl) rfl rfl (Nat.le_of_ble_eq_true rfl) (rc_1 mt_at_56 rfl rfl (by decide) hc) (e_sm_operatorAt (by omega) a1 p1 M _ e) ?_
  refine h_onR (G := fun o => EV d 193 8 [some (.ref p0), some (.int p1), some (.int p2), some (.int p3), none] [rfv o] M2 _) h (fun h => ?_) (fun a4 h => ?_)
  · refine EV_stq mx_193 (pc' := 30) (L' := [some (.ref p0), some (.int p1), some (.int p2), some (.int p3), some (.null)]) (st' := [.int (-1000000001 : Int32)]) bo_193_8_c75d33 rfl ?_
    obtain rfl := Option.some.inj h
    exact r_ret mx_193 li_193_30 rfl ro_int
  · refine EV_stq mx_193 (pc' := 22) (L' := [some (.ref p0), some (.int p1), some (.int p2), some (.int p3), some (.ref a4)]) (st' := [.ref a4]) bo_193_8_be2310 rfl ?_
    refine r_gA mx_193 li_193_22 fd_13_230 rfl h (fun a5 h => ?_)
    refine EV_stq mx_193 (pc' := 27) (L' := [some (.ref p0), some (.int p1), some (.int p2), some (.int p3), some (.ref a4)]) (st' := [.int p3, .int p2, .ref a5]) bo_193_25_6328ed rfl ?_
    refine h_cI h (fun v7 M6 e h => ?_)
    refine EV_call [.ref a5, .int p2, .int p3] [] mx_193 li_193_27 rfl rfl si_13_234 rfl (by decide) (by decide) (by omega) ma_192 rfl (Nat.le_of_ble_eq_true rfl) rfl rfl (Nat.le_of_ble_eq_true rfl) rfl (e_x_numberOf (by omega) a5 p2 p3 M2 _ e) ?_
    show EV d 193 30 [some (.ref p0), some (.int p1), some (.int p2), some (.int p3), some (.ref a4)] [.int v7] M6 _
    obtain rfl := Option.some.inj h
    exact r_ret mx_193 li_193_30 rfl ro_int
theorem e_m_told {d : Nat} (hd : 2 ≤ d) (p0 : Nat) (p1 : Int32) (p2 : Int32) (p3 : Int32) (p4 : Nat) (p5 : Nat) (p6 : Nat) (M : Mem) (r : Int32 × Mem) (h : f_m_told p0 p1 p2 p3 p4 p5 p6 M = some r) : EV d 194 0 (entL 7 [.ref p0, .int p1, .int p2, .int p3, .ref p4, .ref p5, .ref p6]) [] M (some (.int r.1), r.2) := by
  show EV d 194 0 [some (.ref p0), some (.int p1), some (.int p2), some (.int p3), some (.ref p4), some (.ref p5), some (.ref p6)] [] M _
  unfold f_m_told at h
  refine EV_stq mx_194 (pc' := 2) (L' := [some (.ref p0), some (.int p1), some (.int p2), some (.int p3), some (.ref p4), some (.ref p5), some (.ref p6)]) (st' := [.int p1, .ref p0]) bo_194_0_264884 rfl ?_
  refine h_ck h (fun hc h => ?_)
  refine h_cI h (fun v2 M1 e h => ?_)
  refine EV_call [.ref p0, .int p1] [] mx_194 li_194_2 rfl rfl si_14_377 rfl (by decide) (by decide) (by omega) ma_177 rfl (Nat.le_of_ble_eq_true rfl) rfl rfl (Nat.le_of_ble_eq_true rfl) (rc_1 mt_at_177 rfl rfl (by decide) hc) (e_m_isOperator (by omega) p0 p1 M _ e) ?_
  show EV d 194 5 [some (.ref p0), some (.int p1), some (.int p2), some (.int p3), some (.ref p4), some (.ref p5), some (.ref p6)] [.int v2] M1 _
  refine h_eq h (fun h hc => ?_) (fun h hc => ?_)
  · refine r_ifT mx_194 li_194_5 (by decide) rfl hc ?_
    refine EV_stq mx_194 (pc' := 41) (L' := [some (.ref p0), some (.int p1), some (.int p2), some (.int p3), some (.ref p4), some (.ref p5), some (.ref p6)]) (st' := [.int (-1000000001 : Int32)]) bo_194_38_c8c763 rfl ?_
    obtain rfl := Option.some.inj h
    exact r_ret mx_194 li_194_41 rfl ro_int
  · refine r_ifF mx_194 li_194_5 (by decide) hc ?_
    refine EV_stq mx_194 (pc' := 12) (L' := [some (.ref p0), some (.int p1), some (.int p2), some (.int p3), some (.ref p4), some (.ref p5), some (.ref p6)]) (st' := [.int (15 : Int32), .int (0 : Int32), .int p2]) bo_194_8_325fca rfl ?_
    refine h_cI h (fun v4 M3 e h => ?_)
    refine EV_call [.int p2, .int (0 : Int32), .int (15 : Int32)] [] mx_194 li_194_12 rfl rfl si_14_203 rfl (by decide) (by decide) (by omega) ma_29 rfl (Nat.le_of_ble_eq_true rfl) rfl rfl (Nat.le_of_ble_eq_true rfl) rfl (e_m_isIn (by omega) p2 (0 : Int32) (15 : Int32) M1 _ e) ?_
    show EV d 194 15 [some (.ref p0), some (.int p1), some (.int p2), some (.int p3), some (.ref p4), some (.ref p5), some (.ref p6)] [.int v4] M3 _
    refine h_eq h (fun h hc => ?_) (fun h hc => ?_)
    · refine r_ifT mx_194 li_194_15 (by decide) rfl hc ?_
      refine EV_stq mx_194 (pc' := 41) (L' := [some (.ref p0), some (.int p1), some (.int p2), some (.int p3), some (.ref p4), some (.ref p5), some (.ref p6)]) (st' := [.int (-1000000001 : Int32)]) bo_194_38_c8c763 rfl ?_
      obtain rfl := Option.some.inj h
      exact r_ret mx_194 li_194_41 rfl ro_int
    · refine r_ifF mx_194 li_194_15 (by decide) hc ?_
      refine EV_stq mx_194 (pc' := 20) (L' := [some (.ref p0), some (.int p1), some (.int p2), some (.int p3), some (.ref p4), some (.ref p5), some (.ref p6)]) (st' := [.int p1, .ref p0]) bo_194_18_d268ac rfl ?_
      refine h_ck h (fun hc h => ?_)
      refine h_cI h (fun v6 M5 e h => ?_)
      refine EV_call [.ref p0, .int p1] [] mx_194 li_194_20 rfl rfl si_14_281 rfl (by decide) (by decide) (by omega) ma_142 rfl (Nat.le_of_ble_eq_true rfl) rfl rfl (Nat.le_of_ble_eq_true rfl) (rc_1 mt_at_142 rfl rfl (by decide) hc) (e_m_isKeyed (by omega) p0 p1 M3 _ e) ?_
      show EV d 194 23 [some (.ref p0), some (.int p1), some (.int p2), some (.int p3), some (.ref p4), some (.ref p5), some (.ref p6)] [.int v6] M5 _
      refine h_eq h (fun h hc => ?_) (fun h hc => ?_)
      · refine r_ifT mx_194 li_194_23 (by decide) rfl hc ?_
        refine EV_stq mx_194 (pc' := 41) (L' := [some (.ref p0), some (.int p1), some (.int p2), some (.int p3), some (.ref p4), some (.ref p5), some (.ref p6)]) (st' := [.int (-1000000001 : Int32)]) bo_194_38_c8c763 rfl ?_
        obtain rfl := Option.some.inj h
        exact r_ret mx_194 li_194_41 rfl ro_int
      · refine r_ifF mx_194 li_194_23 (by decide) hc ?_
        refine EV_stq mx_194 (pc' := 34) (L' := [some (.ref p0), some (.int p1), some (.int p2), some (.int p3), some (.ref p4), some (.ref p5), some (.ref p6)]) (st' := [.int (((16 : Int32) * p1) + p2), .ref p4]) bo_194_26_68154a rfl ?_
        refine r_aB mx_194 li_194_34 h (fun v7 h => ?_)
        refine h_ne h (fun h hc => ?_) (fun h hc => ?_)
        · refine r_ifF mx_194 li_194_35 (by decide) hc ?_
          refine EV_stq mx_194 (pc' := 41) (L' := [some (.ref p0), some (.int p1), some (.int p2), some (.int p3), some (.ref p4), some (.ref p5), some (.ref p6)]) (st' := [.int (-1000000001 : Int32)]) bo_194_38_c8c763 rfl ?_
          obtain rfl := Option.some.inj h
          exact r_ret mx_194 li_194_41 rfl ro_int
        · refine r_ifT mx_194 li_194_35 (by decide) rfl hc ?_
          refine EV_stq mx_194 (pc' := 45) (L' := [some (.ref p0), some (.int p1), some (.int p2), some (.int p3), some (.ref p4), some (.ref p5), some (.ref p6)]) (st' := [.int (1 : Int32), .int (0 : Int32), .int p3]) bo_194_42_b7a230 rfl ?_
          refine h_cI h (fun v9 M8 e h => ?_)
          refine EV_call [.int p3, .int (0 : Int32), .int (1 : Int32)] [] mx_194 li_194_45 rfl rfl si_14_203 rfl (by decide) (by decide) (by omega) ma_29 rfl (Nat.le_of_ble_eq_true rfl) rfl rfl (Nat.le_of_ble_eq_true rfl) rfl (e_m_isIn (by omega) p3 (0 : Int32) (1 : Int32) M5 _ e) ?_
          show EV d 194 48 [some (.ref p0), some (.int p1), some (.int p2), some (.int p3), some (.ref p4), some (.ref p5), some (.ref p6)] [.int v9] M8 _
          refine h_ne h (fun h hc => ?_) (fun h hc => ?_)
          · refine r_ifF mx_194 li_194_48 (by decide) hc ?_
            refine EV_stq mx_194 (pc' := 81) (L' := [some (.ref p0), some (.int p1), some (.int p2), some (.int p3), some (.ref p4), some (.ref p5), some (.ref p6)]) (st' := [.int (-1000000002 : Int32)]) bo_194_51_dd8b5c rfl ?_
            obtain rfl := Option.some.inj h
            exact r_ret mx_194 li_194_81 rfl ro_int
          · refine r_ifT mx_194 li_194_48 (by decide) rfl hc ?_
            refine EV_stq mx_194 (pc' := 57) (L' := [some (.ref p0), some (.int p1), some (.int p2), some (.int p3), some (.ref p4), some (.ref p5), some (.ref p6)]) (st' := [.int p3]) bo_194_56_350148 rfl ?_
            refine h_ne h (fun h hc => ?_) (fun h hc => ?_)
            · refine r_ifF mx_194 li_194_57 (by decide) hc ?_
              refine EV_stq mx_194 (pc' := 68) (L' := [some (.ref p0), some (.int p1), some (.int p2), some (.int p3), some (.ref p4), some (.ref p5), some (.ref p6)]) (st' := [.int (((16 : Int32) * p1) + p2), .ref p5]) bo_194_60_c5f288 rfl ?_
              refine r_aI mx_194 li_194_68 h (fun v11 h => ?_)
              refine EV_stq mx_194 (pc' := 81) (L' := [some (.ref p0), some (.int p1), some (.int p2), some (.int p3), some (.ref p4), some (.ref p5), some (.ref p6)]) (st' := [.int v11]) bo_194_69_d2296b rfl ?_
              obtain rfl := Option.some.inj h
              exact r_ret mx_194 li_194_81 rfl ro_int
            · refine r_ifT mx_194 li_194_57 (by decide) rfl hc ?_
              refine EV_stq mx_194 (pc' := 80) (L' := [some (.ref p0), some (.int p1), some (.int p2), some (.int p3), some (.ref p4), some (.ref p5), some (.ref p6)]) (st' := [.int (((16 : Int32) * p1) + p2), .ref p6]) bo_194_72_e5b601 rfl ?_
              refine r_aI mx_194 li_194_80 h (fun v10 h => ?_)
              obtain rfl := Option.some.inj h
              exact r_ret mx_194 li_194_81 rfl ro_int
theorem e_m_state {d : Nat} (hd : 3 ≤ d) (p0 : Nat) (p1 : Int32) (p2 : Int32) (p3 : Int32) (M : Mem) (r : Int32 × Mem) (h : f_m_state p0 p1 p2 p3 M = some r) : EV d 195 0 (entL 4 [.ref p0, .int p1, .int p2, .int p3]) [] M (some (.int r.1), r.2) := by
  show EV d 195 0 [some (.ref p0), some (.int p1), some (.int p2), some (.int p3)] [] M _
  unfold f_m_state at h
  refine EV_stq mx_195 (pc' := 5) (L' := [some (.ref p0), some (.int p1), some (.int p2), some (.int p3)]) (st' := [.ref p0, .int p3, .int p2, .int p1, .ref p0]) bo_195_0_e5d6d4 rfl ?_
  refine r_gA mx_195 li_195_5 fd_14_56 rfl h (fun a1 h => ?_)
  refine EV_stq mx_195 (pc' := 9) (L' := [some (.ref p0), some (.int p1), some (.int p2), some (.int p3)]) (st' := [.ref p0, .ref a1, .int p3, .int p2, .int p1, .ref p0]) bo_195_8_383530 rfl ?_
  refine r_gA mx_195 li_195_9 fd_14_66 rfl h (fun a2 h => ?_)
  refine EV_stq mx_195 (pc' := 13) (L' := [some (.ref p0), some (.int p1), some (.int p2), some (.int p3)]) (st' := [.ref p0, .ref a2, .ref a1, .int p3, .int p2, .int p1, .ref p0]) bo_195_12_d0d0c9 rfl ?_
  refine r_gA mx_195 li_195_13 fd_14_75 rfl h (fun a3 h => ?_)
  refine h_ck h (fun hc h => ?_)
  refine h_cI h (fun v5 M4 e h => ?_)
  refine EV_call [.ref p0, .int p1, .int p2, .int p3, .ref a1, .ref a2, .ref a3] [] mx_195 li_195_16 rfl rfl si_14_386 rfl (by decide) (by decide) (by omega) ma_194 rfl (Nat.le_of_ble_eq_true rfl) rfl rfl (Nat.le_of_ble_eq_true rfl) (rc_1 mt_at_194 rfl rfl (by decide) hc) (e_m_told (by omega) p0 p1 p2 p3 a1 a2 a3 M _ e) ?_
  show EV d 195 19 [some (.ref p0), some (.int p1), some (.int p2), some (.int p3)] [.int v5] M4 _
  obtain rfl := Option.some.inj h
  exact r_ret mx_195 li_195_19 rfl ro_int
theorem e_x_savedState {d : Nat} (hd : 2 ≤ d) (p0 : Nat) (p1 : Int32) (p2 : Int32) (p3 : Int32) (M : Mem) (r : Int32 × Mem) (h : f_x_savedState p0 p1 p2 p3 M = some r) : EV d 196 0 (entL 5 [.ref p0, .int p1, .int p2, .int p3]) [] M (some (.int r.1), r.2) := by
  show EV d 196 0 [some (.ref p0), some (.int p1), some (.int p2), some (.int p3), none] [] M _
  unfold f_x_savedState at h
  refine EV_stq mx_196 (pc' := 1) (L' := [some (.ref p0), some (.int p1), some (.int p2), some (.int p3), none]) (st' := [.ref p0]) bo_196_0_8d5162 rfl ?_
  refine r_gA mx_196 li_196_1 fd_13_31 rfl h (fun a1 h => ?_)
  refine EV_stq mx_196 (pc' := 5) (L' := [some (.ref p0), some (.int p1), some (.int p2), some (.int p3), none]) (st' := [.int p1, .ref a1]) bo_196_4_e962e2 rfl ?_
  refine h_ck h (fun hc h => ?_)
  refine h_cR h (fun o3 M2 e h => ?_)
  refine EV_call [.ref a1, .int p1] [] mx_196 li_196_5 rfl rfl si_13_133 rfl (by decide) (by decide) (by omega) ma_56 rfl (Nat.le_of_ble_eq_true rfl) rfl rfl (Nat.le_of_ble_eq_true rfl) (rc_1 mt_at_56 rfl rfl (by decide) hc) (e_sm_operatorAt (by omega) a1 p1 M _ e) ?_
  refine h_onR (G := fun o => EV d 196 8 [some (.ref p0), some (.int p1), some (.int p2), some (.int p3), none] [rfv o] M2 _) h (fun h => ?_) (fun a4 h => ?_)
  · refine EV_stq mx_196 (pc' := 30) (L' := [some (.ref p0), some (.int p1), some (.int p2), some (.int p3), some (.null)]) (st' := [.int (-1000000001 : Int32)]) bo_196_8_c75d33 rfl ?_
    obtain rfl := Option.some.inj h
    exact r_ret mx_196 li_196_30 rfl ro_int
  · refine EV_stq mx_196 (pc' := 22) (L' := [some (.ref p0), some (.int p1), some (.int p2), some (.int p3), some (.ref a4)]) (st' := [.ref a4]) bo_196_8_be2310 rfl ?_
    refine r_gA mx_196 li_196_22 fd_13_238 rfl h (fun a5 h => ?_)
    refine EV_stq mx_196 (pc' := 27) (L' := [some (.ref p0), some (.int p1), some (.int p2), some (.int p3), some (.ref a4)]) (st' := [.int p3, .int p2, .ref a5]) bo_196_25_6328ed rfl ?_
    refine h_cI h (fun v7 M6 e h => ?_)
    refine EV_call [.ref a5, .int p2, .int p3] [] mx_196 li_196_27 rfl rfl si_13_234 rfl (by decide) (by decide) (by omega) ma_192 rfl (Nat.le_of_ble_eq_true rfl) rfl rfl (Nat.le_of_ble_eq_true rfl) rfl (e_x_numberOf (by omega) a5 p2 p3 M2 _ e) ?_
    show EV d 196 30 [some (.ref p0), some (.int p1), some (.int p2), some (.int p3), some (.ref a4)] [.int v7] M6 _
    obtain rfl := Option.some.inj h
    exact r_ret mx_196 li_196_30 rfl ro_int
theorem e_m_savedState {d : Nat} (hd : 3 ≤ d) (p0 : Nat) (p1 : Int32) (p2 : Int32) (p3 : Int32) (M : Mem) (r : Int32 × Mem) (h : f_m_savedState p0 p1 p2 p3 M = some r) : EV d 197 0 (entL 4 [.ref p0, .int p1, .int p2, .int p3]) [] M (some (.int r.1), r.2) := by
  show EV d 197 0 [some (.ref p0), some (.int p1), some (.int p2), some (.int p3)] [] M _
  unfold f_m_savedState at h
  refine EV_stq mx_197 (pc' := 5) (L' := [some (.ref p0), some (.int p1), some (.int p2), some (.int p3)]) (st' := [.ref p0, .int p3, .int p2, .int p1, .ref p0]) bo_197_0_e5d6d4 rfl ?_
  refine r_gA mx_197 li_197_5 fd_14_63 rfl h (fun a1 h => ?_)
  refine EV_stq mx_197 (pc' := 9) (L' := [some (.ref p0), some (.int p1), some (.int p2), some (.int p3)]) (st' := [.ref p0, .ref a1, .int p3, .int p2, .int p1, .ref p0]) bo_197_8_383530 rfl ?_
  refine r_gA mx_197 li_197_9 fd_14_72 rfl h (fun a2 h => ?_)
  refine EV_stq mx_197 (pc' := 13) (L' := [some (.ref p0), some (.int p1), some (.int p2), some (.int p3)]) (st' := [.ref p0, .ref a2, .ref a1, .int p3, .int p2, .int p1, .ref p0]) bo_197_12_d0d0c9 rfl ?_
  refine r_gA mx_197 li_197_13 fd_14_81 rfl h (fun a3 h => ?_)
  refine h_ck h (fun hc h => ?_)
  refine h_cI h (fun v5 M4 e h => ?_)
  refine EV_call [.ref p0, .int p1, .int p2, .int p3, .ref a1, .ref a2, .ref a3] [] mx_197 li_197_16 rfl rfl si_14_386 rfl (by decide) (by decide) (by omega) ma_194 rfl (Nat.le_of_ble_eq_true rfl) rfl rfl (Nat.le_of_ble_eq_true rfl) (rc_1 mt_at_194 rfl rfl (by decide) hc) (e_m_told (by omega) p0 p1 p2 p3 a1 a2 a3 M _ e) ?_
  show EV d 197 19 [some (.ref p0), some (.int p1), some (.int p2), some (.int p3)] [.int v5] M4 _
  obtain rfl := Option.some.inj h
  exact r_ret mx_197 li_197_19 rfl ro_int
theorem e_la_leastOf_52 {d : Nat} (hd : 0 ≤ d) (k5 : Nat → Int32 → Int64 → Int32 → Mem → Option (Int32 × Mem)) (hk5 : ∀ l0 l1 l2 l4 M r, k5 l0 l1 l2 l4 M = some r → EV d 198 5 [some (.ref l0), some (.int l1), some (.long l2), none, some (.int l4)] [] M (some (.int r.1), r.2)) (l0 : Nat) (l1 : Int32) (l2 : Int64) (l4 : Int32) (M : Mem) (r : Int32 × Mem) (h : f_la_leastOf_52 k5 l0 l1 l2 l4 M = some r) : EV d 198 52 [some (.ref l0), some (.int l1), some (.long l2), none, some (.int l4)] [] M (some (.int r.1), r.2) := by
  unfold f_la_leastOf_52 at h
  refine EV_stq mx_198 (pc' := 5) (L' := [some (.ref l0), some (.int l1), some (.long l2), none, some (.int (l4 + (1 : Int32)))]) (st' := []) bo_198_52_ee2563 rfl ?_
  exact hk5 l0 l1 l2 (l4 + (1 : Int32)) M r h
theorem e_la_leastOf_5 {d : Nat} (hd : 0 ≤ d) : ∀ (n : Nat) (l0 : Nat) (l1 : Int32) (l2 : Int64) (l4 : Int32) (M : Mem) (r : Int32 × Mem), f_la_leastOf_5 n l0 l1 l2 l4 M = some r → EV d 198 5 [some (.ref l0), some (.int l1), some (.long l2), none, some (.int l4)] [] M (some (.int r.1), r.2) := by
  intro n
  induction n with
  | zero => intro l0 l1 l2 l4 M r h; cases h
  | succ n ih =>
    intro l0 l1 l2 l4 M r h
    unfold f_la_leastOf_5 at h
    refine EV_stq mx_198 (pc' := 8) (L' := [some (.ref l0), some (.int l1), some (.long l2), none, some (.int l4)]) (st' := [.ref l0, .int l4]) bo_198_5_b1d84f rfl ?_
    refine r_gA mx_198 li_198_8 fd_5_7 rfl h (fun a1 h => ?_)
    refine r_aN mx_198 li_198_11 h (fun v2 h => ?_)
    refine h_ge h (fun h hc => ?_) (fun h hc => ?_)
    · refine r_icT mx_198 li_198_12 (by decide) rfl hc ?_
      refine EV_stq mx_198 (pc' := 60) (L' := [some (.ref l0), some (.int l1), some (.long l2), none, some (.int l4)]) (st' := [.int (131071 : Int32)]) bo_198_58_df393a rfl ?_
      obtain rfl := Option.some.inj h
      exact r_ret mx_198 li_198_60 rfl ro_int
    · refine r_icF mx_198 li_198_12 (by decide) hc ?_
      refine EV_stq mx_198 (pc' := 17) (L' := [some (.ref l0), some (.int l1), some (.long l2), none, some (.int l4)]) (st' := [.ref l0, .long l2]) bo_198_15_d45c32 rfl ?_
      refine r_gA mx_198 li_198_17 fd_5_7 rfl h (fun a3 h => ?_)
      refine EV_stq mx_198 (pc' := 22) (L' := [some (.ref l0), some (.int l1), some (.long l2), none, some (.int l4)]) (st' := [.int l4, .ref a3, .long l2]) bo_198_20_baa9a0 rfl ?_
      refine r_aI mx_198 li_198_22 h (fun v4 h => ?_)
      refine EV_stq mx_198 (pc' := 29) (L' := [some (.ref l0), some (.int l1), some (.long (l2 + v4.toInt64)), none, some (.int l4)]) (st' := [.int (lg_cmp (l2 + v4.toInt64) (0 : Int64))]) bo_198_23_6d5bb3 rfl ?_
      refine h_le h (fun h hc => ?_) (fun h hc => ?_)
      · refine r_ifT mx_198 li_198_29 (by decide) rfl hc ?_
        exact e_la_leastOf_52 hd _ ih l0 l1 (l2 + v4.toInt64) l4 M r h
      · refine r_ifF mx_198 li_198_29 (by decide) hc ?_
        refine EV_stq mx_198 (pc' := 40) (L' := [some (.ref l0), some (.int l1), some (.long (l2 + v4.toInt64)), none, some (.int l4)]) (st' := [.ref l0, .long l1.toInt64, .long ((l2 + v4.toInt64) * (100 : Int64))]) bo_198_32_814cbe rfl ?_
        refine r_gI mx_198 li_198_40 fd_5_29 ⟨by decide, by decide⟩ h (fun v5 h => ?_)
        refine EV_stq mx_198 (pc' := 46) (L' := [some (.ref l0), some (.int l1), some (.long (l2 + v4.toInt64)), none, some (.int l4)]) (st' := [.int (lg_cmp ((l2 + v4.toInt64) * (100 : Int64)) (l1.toInt64 * v5.toInt64))]) bo_198_43_b66fbf rfl ?_
        refine h_lt h (fun h hc => ?_) (fun h hc => ?_)
        · refine r_ifT mx_198 li_198_46 (by decide) rfl hc ?_
          exact e_la_leastOf_52 hd _ ih l0 l1 (l2 + v4.toInt64) l4 M r h
        · refine r_ifF mx_198 li_198_46 (by decide) hc ?_
          refine EV_stq mx_198 (pc' := 51) (L' := [some (.ref l0), some (.int l1), some (.long (l2 + v4.toInt64)), none, some (.int l4)]) (st' := [.int l4]) bo_198_49_e052b7 rfl ?_
          obtain rfl := Option.some.inj h
          exact r_ret mx_198 li_198_51 rfl ro_int
theorem e_la_leastOf {d : Nat} (hd : 0 ≤ d) (p0 : Nat) (p1 : Int32) (M : Mem) (r : Int32 × Mem) (h : f_la_leastOf p0 p1 M = some r) : EV d 198 0 (entL 5 [.ref p0, .int p1]) [] M (some (.int r.1), r.2) := by
  show EV d 198 0 [some (.ref p0), some (.int p1), none, none, none] [] M _
  unfold f_la_leastOf at h
  refine EV_stq mx_198 (pc' := 5) (L' := [some (.ref p0), some (.int p1), some (.long (0 : Int64)), none, some (.int (0 : Int32))]) (st' := []) bo_198_0_5a4d31 rfl ?_
  exact e_la_leastOf_5 hd FU p0 p1 (0 : Int64) (0 : Int32) M r h
theorem e_x_latency {d : Nat} (hd : 1 ≤ d) (p0 : Nat) (p1 : Int32) (M : Mem) (r : Int32 × Mem) (h : f_x_latency p0 p1 M = some r) : EV d 199 0 (entL 3 [.ref p0, .int p1]) [] M (some (.int r.1), r.2) := by
  show EV d 199 0 [some (.ref p0), some (.int p1), none] [] M _
  unfold f_x_latency at h
  refine EV_stq mx_199 (pc' := 3) (L' := [some (.ref p0), some (.int p1), none]) (st' := [.int (-2 : Int32), .int p1]) bo_199_0_264884 rfl ?_
  refine h_lt h (fun h hc => ?_) (fun h hc => ?_)
  · refine r_icT mx_199 li_199_3 (by decide) rfl hc ?_
    refine EV_stq mx_199 (pc' := 14) (L' := [some (.ref p0), some (.int p1), none]) (st' := [.int (-1000000002 : Int32)]) bo_199_12_d0d0c9 rfl ?_
    obtain rfl := Option.some.inj h
    exact r_ret mx_199 li_199_14 rfl ro_int
  · refine r_icF mx_199 li_199_3 (by decide) hc ?_
    refine EV_stq mx_199 (pc' := 9) (L' := [some (.ref p0), some (.int p1), none]) (st' := [.int (100 : Int32), .int p1]) bo_199_6_e618ed rfl ?_
    refine h_le h (fun h hc => ?_) (fun h hc => ?_)
    · refine r_icT mx_199 li_199_9 (by decide) rfl hc ?_
      refine EV_stq mx_199 (pc' := 16) (L' := [some (.ref p0), some (.int p1), none]) (st' := [.ref p0]) bo_199_15_be4250 rfl ?_
      refine r_gA mx_199 li_199_16 fd_13_31 rfl h (fun a1 h => ?_)
      refine r_gA mx_199 li_199_19 fd_13_241 rfl h (fun a2 h => ?_)
      refine EV_stq mx_199 (pc' := 24) (L' := [some (.ref p0), some (.int p1), some (.ref a2)]) (st' := [.ref a2]) bo_199_22_13b32e rfl ?_
      refine r_gI mx_199 li_199_24 fd_13_245 ⟨by decide, by decide⟩ h (fun v3 h => ?_)
      refine h_ne h (fun h hc => ?_) (fun h hc => ?_)
      · refine r_ifF mx_199 li_199_27 (by decide) hc ?_
        refine EV_stq mx_199 (pc' := 32) (L' := [some (.ref p0), some (.int p1), some (.ref a2)]) (st' := [.int (-1000000001 : Int32)]) bo_199_30_0b4e4a rfl ?_
        obtain rfl := Option.some.inj h
        exact r_ret mx_199 li_199_32 rfl ro_int
      · refine r_ifT mx_199 li_199_27 (by decide) rfl hc ?_
        refine EV_stq mx_199 (pc' := 36) (L' := [some (.ref p0), some (.int p1), some (.ref a2)]) (st' := [.int (-2 : Int32), .int p1]) bo_199_33_9ed66c rfl ?_
        refine h_ne h (fun h hc => ?_) (fun h hc => ?_)
        · refine r_icF mx_199 li_199_36 (by decide) hc ?_
          refine EV_stq mx_199 (pc' := 40) (L' := [some (.ref p0), some (.int p1), some (.ref a2)]) (st' := [.ref a2]) bo_199_39_4dcc25 rfl ?_
          refine r_gI mx_199 li_199_40 fd_13_250 ⟨by decide, by decide⟩ h (fun v7 h => ?_)
          obtain rfl := Option.some.inj h
          exact r_ret mx_199 li_199_43 rfl ro_int
        · refine r_icT mx_199 li_199_36 (by decide) rfl hc ?_
          refine EV_stq mx_199 (pc' := 46) (L' := [some (.ref p0), some (.int p1), some (.ref a2)]) (st' := [.int (-1 : Int32), .int p1]) bo_199_44_e175ea rfl ?_
          refine h_ne h (fun h hc => ?_) (fun h hc => ?_)
          · refine r_icF mx_199 li_199_46 (by decide) hc ?_
            refine EV_stq mx_199 (pc' := 50) (L' := [some (.ref p0), some (.int p1), some (.ref a2)]) (st' := [.ref a2]) bo_199_49_e052b7 rfl ?_
            refine r_gI mx_199 li_199_50 fd_13_245 ⟨by decide, by decide⟩ h (fun v6 h => ?_)
            refine EV_stq mx_199 (pc' := 61) (L' := [some (.ref p0), some (.int p1), some (.ref a2)]) (st' := [.int v6]) bo_199_53_a422c0 rfl ?_
            obtain rfl := Option.some.inj h
            exact r_ret mx_199 li_199_61 rfl ro_int
          · refine r_icT mx_199 li_199_46 (by decide) rfl hc ?_
            refine EV_stq mx_199 (pc' := 58) (L' := [some (.ref p0), some (.int p1), some (.ref a2)]) (st' := [.int p1, .ref a2]) bo_199_56_ba4435 rfl ?_
            refine h_ck h (fun hc h => ?_)
            refine h_cI h (fun v5 M4 e h => ?_)
            refine EV_call [.ref a2, .int p1] [] mx_199 li_199_58 rfl rfl si_13_253 rfl (by decide) (by decide) (by omega) ma_198 rfl (Nat.le_of_ble_eq_true rfl) rfl rfl (Nat.le_of_ble_eq_true rfl) (rc_1 mt_at_198 rfl rfl (by decide) hc) (e_la_leastOf (by omega) a2 p1 M _ e) ?_
            show EV d 199 61 [some (.ref p0), some (.int p1), some (.ref a2)] [.int v5] M4 _
            obtain rfl := Option.some.inj h
            exact r_ret mx_199 li_199_61 rfl ro_int
    · refine r_icF mx_199 li_199_9 (by decide) hc ?_
      refine EV_stq mx_199 (pc' := 14) (L' := [some (.ref p0), some (.int p1), none]) (st' := [.int (-1000000002 : Int32)]) bo_199_12_d0d0c9 rfl ?_
      obtain rfl := Option.some.inj h
      exact r_ret mx_199 li_199_14 rfl ro_int
