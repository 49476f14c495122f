theorem bo_122_0_264884 : ∀ e ∈ ([(0, .iload_n 1, 1), (1, .aload_n 0, 2)] : List (Nat × Instr × Nat)), il_122.lookup e.1 = some e.2 := by decide +kernel
theorem li_122_2 : il_122.lookup 2 = some (.arraylength, 3) := by decide +kernel
theorem li_122_3 : il_122.lookup 3 = some (.if_icmp .ne 11, 6) := by decide +kernel
theorem bo_122_14_3e81ce : ∀ e ∈ ([(14, .iload_n 1, 15)] : List (Nat × Instr × Nat)), il_122.lookup e.1 = some e.2 := by decide +kernel
theorem li_122_15 : il_122.lookup 15 = some (.newarray .int, 17) := by decide +kernel
theorem bo_122_17_9661cb : ∀ e ∈ ([(17, .astore_n 2, 18), (18, .aload_n 0, 19), (19, .iconst 0, 20), (20, .aload_n 2, 21), (21, .iconst 0, 22), (22, .aload_n 0, 23)] : List (Nat × Instr × Nat)), il_122.lookup e.1 = some e.2 := by decide +kernel
theorem li_122_23 : il_122.lookup 23 = some (.arraylength, 24) := by decide +kernel
theorem bo_122_24_99aa1d : ∀ e ∈ ([(24, .iload_n 1, 25)] : List (Nat × Instr × Nat)), il_122.lookup e.1 = some e.2 := by decide +kernel
theorem li_122_25 : il_122.lookup 25 = some (.invokestatic 304, 28) := by decide +kernel
theorem li_122_28 : il_122.lookup 28 = some (.invokestatic 150, 31) := by decide +kernel
theorem bo_122_31_c379e3 : ∀ e ∈ ([(31, .aload_n 2, 32)] : List (Nat × Instr × Nat)), il_122.lookup e.1 = some e.2 := by decide +kernel
theorem li_122_32 : il_122.lookup 32 = some (.areturn, 33) := by decide +kernel
theorem bo_123_44_56c0aa : ∀ e ∈ ([(44, .aload_n 0, 45)] : List (Nat × Instr × Nat)), il_123.lookup e.1 = some e.2 := by decide +kernel
theorem li_123_45 : il_123.lookup 45 = some (.getfield 7, 48) := by decide +kernel
theorem bo_123_48_3a676f : ∀ e ∈ ([(48, .iload_n 2, 49), (49, .dup2, 50)] : List (Nat × Instr × Nat)), il_123.lookup e.1 = some e.2 := by decide +kernel
theorem li_123_50 : il_123.lookup 50 = some (.iaload, 51) := by decide +kernel
theorem bo_123_51_a39201 : ∀ e ∈ ([(51, .iconst 1, 52), (52, .iadd, 53)] : List (Nat × Instr × Nat)), il_123.lookup e.1 = some e.2 := by decide +kernel
theorem li_123_53 : il_123.lookup 53 = some (.iastore, 54) := by decide +kernel
theorem bo_123_54_a3ab7c : ∀ e ∈ ([(54, .aload_n 0, 55), (55, .dup, 56)] : List (Nat × Instr × Nat)), il_123.lookup e.1 = some e.2 := by decide +kernel
theorem li_123_56 : il_123.lookup 56 = some (.getfield 29, 59) := by decide +kernel
theorem bo_123_59_d0b94e : ∀ e ∈ ([(59, .iconst 1, 60), (60, .iadd, 61)] : List (Nat × Instr × Nat)), il_123.lookup e.1 = some e.2 := by decide +kernel
theorem li_123_61 : il_123.lookup 61 = some (.putfield 29, 64) := by decide +kernel
theorem bo_123_64_23d05d : ∀ e ∈ ([(64, .aload_n 0, 65), (65, .dup, 66)] : List (Nat × Instr × Nat)), il_123.lookup e.1 = some e.2 := by decide +kernel
theorem li_123_66 : il_123.lookup 66 = some (.getfield 33, 69) := by decide +kernel
theorem bo_123_69_1aaecf : ∀ e ∈ ([(69, .iload_n 1, 70), (70, .iadd, 71)] : List (Nat × Instr × Nat)), il_123.lookup e.1 = some e.2 := by decide +kernel
theorem li_123_71 : il_123.lookup 71 = some (.putfield 33, 74) := by decide +kernel
theorem li_123_74 : il_123.lookup 74 = some (.return_, 75) := by decide +kernel
theorem bo_123_0_8b3750 : ∀ e ∈ ([(0, .iconst 0, 1), (1, .iload_n 1, 2), (2, .ldc 13, 4)] : List (Nat × Instr × Nat)), il_123.lookup e.1 = some e.2 := by decide +kernel
theorem li_123_4 : il_123.lookup 4 = some (.invokestatic 14, 7) := by decide +kernel
theorem li_123_7 : il_123.lookup 7 = some (.invokestatic 20, 10) := by decide +kernel
theorem bo_123_10_4b0123 : ∀ e ∈ ([(10, .istore_n 2, 11), (11, .iload_n 2, 12), (12, .aload_n 0, 13)] : List (Nat × Instr × Nat)), il_123.lookup e.1 = some e.2 := by decide +kernel
theorem li_123_13 : il_123.lookup 13 = some (.getfield 7, 16) := by decide +kernel
theorem li_123_16 : il_123.lookup 16 = some (.arraylength, 17) := by decide +kernel
theorem li_123_17 : il_123.lookup 17 = some (.if_icmp .lt 27, 20) := by decide +kernel
theorem bo_123_20_aa2fda : ∀ e ∈ ([(20, .aload_n 0, 21), (21, .aload_n 0, 22)] : List (Nat × Instr × Nat)), il_123.lookup e.1 = some e.2 := by decide +kernel
theorem li_123_22 : il_123.lookup 22 = some (.getfield 7, 25) := by decide +kernel
theorem bo_123_25_4c1db3 : ∀ e ∈ ([(25, .iload_n 2, 26), (26, .iconst 1, 27), (27, .iadd, 28), (28, .iconst 2, 29), (29, .aload_n 0, 30)] : List (Nat × Instr × Nat)), il_123.lookup e.1 = some e.2 := by decide +kernel
theorem li_123_30 : il_123.lookup 30 = some (.getfield 7, 33) := by decide +kernel
theorem li_123_33 : il_123.lookup 33 = some (.arraylength, 34) := by decide +kernel
theorem bo_123_34_130638 : ∀ e ∈ ([(34, .imul, 35)] : List (Nat × Instr × Nat)), il_123.lookup e.1 = some e.2 := by decide +kernel
theorem li_123_35 : il_123.lookup 35 = some (.invokestatic 20, 38) := by decide +kernel
theorem li_123_38 : il_123.lookup 38 = some (.invokestatic 23, 41) := by decide +kernel
theorem li_123_41 : il_123.lookup 41 = some (.putfield 7, 44) := by decide +kernel
theorem bo_124_0_8d5162 : ∀ e ∈ ([(0, .aload_n 0, 1)] : List (Nat × Instr × Nat)), il_124.lookup e.1 = some e.2 := by decide +kernel
theorem li_124_1 : il_124.lookup 1 = some (.getfield 51, 4) := by decide +kernel
theorem li_124_4 : il_124.lookup 4 = some (.ifCond .ne 17, 7) := by decide +kernel
theorem bo_124_21_46c79c : ∀ e ∈ ([(21, .aload_n 0, 22)] : List (Nat × Instr × Nat)), il_124.lookup e.1 = some e.2 := by decide +kernel
theorem li_124_22 : il_124.lookup 22 = some (.getfield 51, 25) := by decide +kernel
theorem bo_124_25_1858f6 : ∀ e ∈ ([(25, .iconst 1, 26)] : List (Nat × Instr × Nat)), il_124.lookup e.1 = some e.2 := by decide +kernel
theorem li_124_26 : il_124.lookup 26 = some (.if_icmp .ne 19, 29) := by decide +kernel
theorem bo_124_45_b7d017 : ∀ e ∈ ([(45, .iload_n 1, 46), (46, .aload_n 0, 47)] : List (Nat × Instr × Nat)), il_124.lookup e.1 = some e.2 := by decide +kernel
theorem li_124_47 : il_124.lookup 47 = some (.getfield 54, 50) := by decide +kernel
theorem li_124_50 : il_124.lookup 50 = some (.if_icmp .le 7, 53) := by decide +kernel
theorem bo_124_57_a9d9a3 : ∀ e ∈ ([(57, .iconst 0, 58)] : List (Nat × Instr × Nat)), il_124.lookup e.1 = some e.2 := by decide +kernel
theorem li_124_58 : il_124.lookup 58 = some (.ireturn, 59) := by decide +kernel
theorem bo_124_53_2770e1 : ∀ e ∈ ([(53, .iconst 1, 54), (54, .goto 4, 57)] : List (Nat × Instr × Nat)), il_124.lookup e.1 = some e.2 := by decide +kernel
theorem bo_124_29_2746c1 : ∀ e ∈ ([(29, .iload_n 1, 30), (30, .aload_n 0, 31)] : List (Nat × Instr × Nat)), il_124.lookup e.1 = some e.2 := by decide +kernel
theorem li_124_31 : il_124.lookup 31 = some (.getfield 54, 34) := by decide +kernel
theorem li_124_34 : il_124.lookup 34 = some (.if_icmp .ne 7, 37) := by decide +kernel
theorem bo_124_41_4c2c9e : ∀ e ∈ ([(41, .iconst 0, 42), (42, .goto 16, 45)] : List (Nat × Instr × Nat)), il_124.lookup e.1 = some e.2 := by decide +kernel
theorem bo_124_37_b7e9cc : ∀ e ∈ ([(37, .iconst 1, 38), (38, .goto 20, 41)] : List (Nat × Instr × Nat)), il_124.lookup e.1 = some e.2 := by decide +kernel
theorem bo_124_7_7eef78 : ∀ e ∈ ([(7, .iload_n 1, 8), (8, .aload_n 0, 9)] : List (Nat × Instr × Nat)), il_124.lookup e.1 = some e.2 := by decide +kernel
theorem li_124_9 : il_124.lookup 9 = some (.getfield 54, 12) := by decide +kernel
theorem li_124_12 : il_124.lookup 12 = some (.if_icmp .ge 7, 15) := by decide +kernel
theorem bo_124_19_1a8444 : ∀ e ∈ ([(19, .iconst 0, 20)] : List (Nat × Instr × Nat)), il_124.lookup e.1 = some e.2 := by decide +kernel
theorem li_124_20 : il_124.lookup 20 = some (.ireturn, 21) := by decide +kernel
theorem bo_124_15_d45c32 : ∀ e ∈ ([(15, .iconst 1, 16), (16, .goto 4, 19)] : List (Nat × Instr × Nat)), il_124.lookup e.1 = some e.2 := by decide +kernel
theorem bo_125_0_8d5162 : ∀ e ∈ ([(0, .aload_n 0, 1)] : List (Nat × Instr × Nat)), il_125.lookup e.1 = some e.2 := by decide +kernel
theorem li_125_1 : il_125.lookup 1 = some (.getfield 9, 4) := by decide +kernel
theorem bo_125_4_a77b4c : ∀ e ∈ ([(4, .iload_n 1, 5), (5, .bipush 15, 7), (7, .iand, 8)] : List (Nat × Instr × Nat)), il_125.lookup e.1 = some e.2 := by decide +kernel
theorem li_125_8 : il_125.lookup 8 = some (.iaload, 9) := by decide +kernel
theorem li_125_9 : il_125.lookup 9 = some (.ireturn, 10) := by decide +kernel
theorem bo_126_0_8d5162 : ∀ e ∈ ([(0, .aload_n 0, 1)] : List (Nat × Instr × Nat)), il_126.lookup e.1 = some e.2 := by decide +kernel
theorem li_126_1 : il_126.lookup 1 = some (.getfield 15, 4) := by decide +kernel
theorem bo_126_4_a77b4c : ∀ e ∈ ([(4, .iload_n 1, 5), (5, .bipush 15, 7), (7, .iand, 8)] : List (Nat × Instr × Nat)), il_126.lookup e.1 = some e.2 := by decide +kernel
theorem li_126_8 : il_126.lookup 8 = some (.iaload, 9) := by decide +kernel
theorem li_126_9 : il_126.lookup 9 = some (.ireturn, 10) := by decide +kernel
theorem bo_127_0_8d5162 : ∀ e ∈ ([(0, .aload_n 0, 1)] : List (Nat × Instr × Nat)), il_127.lookup e.1 = some e.2 := by decide +kernel
theorem li_127_1 : il_127.lookup 1 = some (.getfield 9, 4) := by decide +kernel
theorem bo_127_4_64195e : ∀ e ∈ ([(4, .iload_n 1, 5), (5, .bipush 15, 7), (7, .iand, 8), (8, .iconst 0, 9)] : List (Nat × Instr × Nat)), il_127.lookup e.1 = some e.2 := by decide +kernel
theorem li_127_9 : il_127.lookup 9 = some (.iastore, 10) := by decide +kernel
theorem bo_127_10_2a30f5 : ∀ e ∈ ([(10, .aload_n 0, 11)] : List (Nat × Instr × Nat)), il_127.lookup e.1 = some e.2 := by decide +kernel
theorem li_127_11 : il_127.lookup 11 = some (.getfield 15, 14) := by decide +kernel
theorem bo_127_14_4d1cdc : ∀ e ∈ ([(14, .iload_n 1, 15), (15, .bipush 15, 17), (17, .iand, 18), (18, .iconst 0, 19)] : List (Nat × Instr × Nat)), il_127.lookup e.1 = some e.2 := by decide +kernel
theorem li_127_19 : il_127.lookup 19 = some (.iastore, 20) := by decide +kernel
theorem bo_127_20_aa2fda : ∀ e ∈ ([(20, .aload_n 0, 21), (21, .dup, 22)] : List (Nat × Instr × Nat)), il_127.lookup e.1 = some e.2 := by decide +kernel
theorem li_127_22 : il_127.lookup 22 = some (.getfield 18, 25) := by decide +kernel
theorem bo_127_25_fb885d : ∀ e ∈ ([(25, .iconst 1, 26), (26, .iload_n 1, 27), (27, .bipush 15, 29), (29, .iand, 30), (30, .ishl, 31), (31, .iconst (-1), 32), (32, .ixor, 33), (33, .iand, 34)] : List (Nat × Instr × Nat)), il_127.lookup e.1 = some e.2 := by decide +kernel
theorem li_127_34 : il_127.lookup 34 = some (.putfield 18, 37) := by decide +kernel
theorem li_127_37 : il_127.lookup 37 = some (.return_, 38) := by decide +kernel
theorem bo_128_0_8d5162 : ∀ e ∈ ([(0, .aload_n 0, 1)] : List (Nat × Instr × Nat)), il_128.lookup e.1 = some e.2 := by decide +kernel
theorem li_128_1 : il_128.lookup 1 = some (.getfield 9, 4) := by decide +kernel
theorem bo_128_4_64195e : ∀ e ∈ ([(4, .iload_n 1, 5), (5, .bipush 15, 7), (7, .iand, 8), (8, .iload_n 2, 9)] : List (Nat × Instr × Nat)), il_128.lookup e.1 = some e.2 := by decide +kernel
theorem li_128_9 : il_128.lookup 9 = some (.iastore, 10) := by decide +kernel
theorem bo_128_10_2a30f5 : ∀ e ∈ ([(10, .aload_n 0, 11)] : List (Nat × Instr × Nat)), il_128.lookup e.1 = some e.2 := by decide +kernel
theorem li_128_11 : il_128.lookup 11 = some (.getfield 15, 14) := by decide +kernel
theorem bo_128_14_4d1cdc : ∀ e ∈ ([(14, .iload_n 1, 15), (15, .bipush 15, 17), (17, .iand, 18), (18, .iload_n 3, 19)] : List (Nat × Instr × Nat)), il_128.lookup e.1 = some e.2 := by decide +kernel
theorem li_128_19 : il_128.lookup 19 = some (.iastore, 20) := by decide +kernel
theorem bo_128_20_aa2fda : ∀ e ∈ ([(20, .aload_n 0, 21), (21, .dup, 22)] : List (Nat × Instr × Nat)), il_128.lookup e.1 = some e.2 := by decide +kernel
theorem li_128_22 : il_128.lookup 22 = some (.getfield 18, 25) := by decide +kernel
theorem bo_128_25_37d1a3 : ∀ e ∈ ([(25, .iconst 1, 26), (26, .iload_n 1, 27), (27, .bipush 15, 29), (29, .iand, 30), (30, .ishl, 31), (31, .ior, 32)] : List (Nat × Instr × Nat)), il_128.lookup e.1 = some e.2 := by decide +kernel
theorem li_128_32 : il_128.lookup 32 = some (.putfield 18, 35) := by decide +kernel
theorem li_128_35 : il_128.lookup 35 = some (.return_, 36) := by decide +kernel
theorem bo_129_0_264884 : ∀ e ∈ ([(0, .aload_n 1, 1), (1, .iload_n 2, 2)] : List (Nat × Instr × Nat)), il_129.lookup e.1 = some e.2 := by decide +kernel
theorem li_129_2 : il_129.lookup 2 = some (.invokevirtual 120, 5) := by decide +kernel
theorem bo_129_5_f1be6a : ∀ e ∈ ([(5, .iload_n 3, 6), (6, .iadd, 7), (7, .istore 6, 9), (9, .aload_n 1, 10), (10, .iload_n 2, 11)] : List (Nat × Instr × Nat)), il_129.lookup e.1 = some e.2 := by decide +kernel
theorem li_129_11 : il_129.lookup 11 = some (.invokevirtual 127, 14) := by decide +kernel
theorem bo_129_14_0fd01d : ∀ e ∈ ([(14, .iconst 1, 15), (15, .iadd, 16), (16, .istore 7, 18), (18, .iload 7, 20), (20, .aload_n 0, 21)] : List (Nat × Instr × Nat)), il_129.lookup e.1 = some e.2 := by decide +kernel
theorem li_129_21 : il_129.lookup 21 = some (.getfield 51, 24) := by decide +kernel
theorem li_129_24 : il_129.lookup 24 = some (.if_icmp .ne 21, 27) := by decide +kernel
theorem bo_129_45_1cc20a : ∀ e ∈ ([(45, .aload_n 1, 46), (46, .iload_n 2, 47), (47, .iload 6, 49), (49, .iload 7, 51)] : List (Nat × Instr × Nat)), il_129.lookup e.1 = some e.2 := by decide +kernel
theorem li_129_51 : il_129.lookup 51 = some (.invokevirtual 124, 54) := by decide +kernel
theorem li_129_54 : il_129.lookup 54 = some (.return_, 55) := by decide +kernel
theorem bo_129_27_9f8789 : ∀ e ∈ ([(27, .aload 5, 29), (29, .iload_n 2, 30), (30, .iload 6, 32), (32, .iload 4, 34)] : List (Nat × Instr × Nat)), il_129.lookup e.1 = some e.2 := by decide +kernel
theorem li_129_34 : il_129.lookup 34 = some (.invokevirtual 104, 37) := by decide +kernel
theorem bo_129_37_b7e9cc : ∀ e ∈ ([(37, .aload_n 1, 38), (38, .iload_n 2, 39)] : List (Nat × Instr × Nat)), il_129.lookup e.1 = some e.2 := by decide +kernel
theorem li_129_39 : il_129.lookup 39 = some (.invokevirtual 130, 42) := by decide +kernel
theorem bo_129_42_b358e7 : ∀ e ∈ ([(42, .goto 12, 45)] : List (Nat × Instr × Nat)), il_129.lookup e.1 = some e.2 := by decide +kernel
theorem bo_130_0_8d5162 : ∀ e ∈ ([(0, .aload_n 0, 1)] : List (Nat × Instr × Nat)), il_130.lookup e.1 = some e.2 := by decide +kernel
theorem li_130_1 : il_130.lookup 1 = some (.getfield 18, 4) := by decide +kernel
theorem bo_130_4_f160ce : ∀ e ∈ ([(4, .iload_n 1, 5), (5, .bipush 15, 7), (7, .iand, 8), (8, .ishr, 9), (9, .iconst 1, 10), (10, .iand, 11)] : List (Nat × Instr × Nat)), il_130.lookup e.1 = some e.2 := by decide +kernel
theorem li_130_11 : il_130.lookup 11 = some (.ifCond .eq 7, 14) := by decide +kernel
theorem bo_130_18_2b31d8 : ∀ e ∈ ([(18, .iconst 0, 19)] : List (Nat × Instr × Nat)), il_130.lookup e.1 = some e.2 := by decide +kernel
theorem li_130_19 : il_130.lookup 19 = some (.ireturn, 20) := by decide +kernel
theorem bo_130_14_4d7356 : ∀ e ∈ ([(14, .iconst 1, 15), (15, .goto 4, 18)] : List (Nat × Instr × Nat)), il_130.lookup e.1 = some e.2 := by decide +kernel
theorem bo_131_128_27e958 : ∀ e ∈ ([(128, .iload 6, 130), (130, .aload_n 0, 131)] : List (Nat × Instr × Nat)), il_131.lookup e.1 = some e.2 := by decide +kernel
theorem li_131_131 : il_131.lookup 131 = some (.getfield 51, 134) := by decide +kernel
theorem li_131_134 : il_131.lookup 134 = some (.if_icmp .ge 21, 137) := by decide +kernel
theorem bo_131_155_2973a9 : ∀ e ∈ ([(155, .goto 111, 158)] : List (Nat × Instr × Nat)), il_131.lookup e.1 = some e.2 := by decide +kernel
theorem li_131_266 : il_131.lookup 266 = some (.return_, 267) := by decide +kernel
theorem bo_131_137_e51b90 : ∀ e ∈ ([(137, .aload 5, 139), (139, .iload_n 2, 140), (140, .iload_n 3, 141), (141, .iload 6, 143), (143, .iadd, 144), (144, .iload 4, 146)] : List (Nat × Instr × Nat)), il_131.lookup e.1 = some e.2 := by decide +kernel
theorem li_131_146 : il_131.lookup 146 = some (.invokevirtual 104, 149) := by decide +kernel
theorem bo_131_149_33805e : ∀ e ∈ ([(149, .iinc 6 1, 152), (152, .goto (-24), 155)] : List (Nat × Instr × Nat)), il_131.lookup e.1 = some e.2 := by decide +kernel
theorem bo_131_198_f47352 : ∀ e ∈ ([(198, .aload_n 1, 199), (199, .iload_n 2, 200), (200, .iload_n 3, 201), (201, .iconst 0, 202)] : List (Nat × Instr × Nat)), il_131.lookup e.1 = some e.2 := by decide +kernel
theorem li_131_202 : il_131.lookup 202 = some (.invokevirtual 124, 205) := by decide +kernel
theorem bo_131_205_65b258 : ∀ e ∈ ([(205, .goto 61, 208)] : List (Nat × Instr × Nat)), il_131.lookup e.1 = some e.2 := by decide +kernel
theorem bo_131_189_8d2b6c : ∀ e ∈ ([(189, .aload 5, 191), (191, .iload_n 2, 192), (192, .iload_n 3, 193), (193, .iload 4, 195)] : List (Nat × Instr × Nat)), il_131.lookup e.1 = some e.2 := by decide +kernel
theorem li_131_195 : il_131.lookup 195 = some (.invokevirtual 104, 198) := by decide +kernel
theorem bo_131_225_a3292b : ∀ e ∈ ([(225, .aload 5, 227), (227, .iload_n 2, 228), (228, .iload_n 3, 229), (229, .iload 4, 231)] : List (Nat × Instr × Nat)), il_131.lookup e.1 = some e.2 := by decide +kernel
theorem li_131_231 : il_131.lookup 231 = some (.invokevirtual 104, 234) := by decide +kernel
theorem bo_131_234_84c02c : ∀ e ∈ ([(234, .aload_n 1, 235), (235, .iload_n 2, 236), (236, .iload_n 3, 237), (237, .iconst 0, 238)] : List (Nat × Instr × Nat)), il_131.lookup e.1 = some e.2 := by decide +kernel
theorem li_131_238 : il_131.lookup 238 = some (.invokevirtual 124, 241) := by decide +kernel
theorem bo_131_241_9507b2 : ∀ e ∈ ([(241, .goto 25, 244)] : List (Nat × Instr × Nat)), il_131.lookup e.1 = some e.2 := by decide +kernel
theorem bo_131_0_8d5162 : ∀ e ∈ ([(0, .aload_n 0, 1)] : List (Nat × Instr × Nat)), il_131.lookup e.1 = some e.2 := by decide +kernel
theorem li_131_1 : il_131.lookup 1 = some (.getfield 47, 4) := by decide +kernel
theorem li_131_4 : il_131.lookup 4 = some (.tableswitch 262 0 8 #[52, 74, 94, 121, 154, 168, 204, 262, 240], 56) := by decide +kernel
theorem bo_131_56_9cd3f1 : ∀ e ∈ ([(56, .aload 5, 58), (58, .iload_n 2, 59), (59, .iload_n 3, 60), (60, .aload_n 0, 61)] : List (Nat × Instr × Nat)), il_131.lookup e.1 = some e.2 := by decide +kernel
theorem li_131_61 : il_131.lookup 61 = some (.getfield 51, 64) := by decide +kernel
theorem bo_131_64_23d05d : ∀ e ∈ ([(64, .imul, 65), (65, .aload_n 0, 66)] : List (Nat × Instr × Nat)), il_131.lookup e.1 = some e.2 := by decide +kernel
theorem li_131_66 : il_131.lookup 66 = some (.getfield 54, 69) := by decide +kernel
theorem bo_131_69_1aaecf : ∀ e ∈ ([(69, .iadd, 70), (70, .iload 4, 72)] : List (Nat × Instr × Nat)), il_131.lookup e.1 = some e.2 := by decide +kernel
theorem li_131_72 : il_131.lookup 72 = some (.invokevirtual 104, 75) := by decide +kernel
theorem bo_131_75_1f1f88 : ∀ e ∈ ([(75, .goto 191, 78)] : List (Nat × Instr × Nat)), il_131.lookup e.1 = some e.2 := by decide +kernel
theorem bo_131_78_32a02f : ∀ e ∈ ([(78, .aload_n 0, 79), (79, .iload_n 3, 80)] : List (Nat × Instr × Nat)), il_131.lookup e.1 = some e.2 := by decide +kernel
theorem li_131_80 : il_131.lookup 80 = some (.invokevirtual 108, 83) := by decide +kernel
theorem li_131_83 : il_131.lookup 83 = some (.ifCond .eq 183, 86) := by decide +kernel
theorem bo_131_86_467b1d : ∀ e ∈ ([(86, .aload 5, 88), (88, .iload_n 2, 89), (89, .iload_n 3, 90), (90, .iload 4, 92)] : List (Nat × Instr × Nat)), il_131.lookup e.1 = some e.2 := by decide +kernel
theorem li_131_92 : il_131.lookup 92 = some (.invokevirtual 104, 95) := by decide +kernel
theorem bo_131_95_076086 : ∀ e ∈ ([(95, .goto 171, 98)] : List (Nat × Instr × Nat)), il_131.lookup e.1 = some e.2 := by decide +kernel
theorem bo_131_98_41e481 : ∀ e ∈ ([(98, .aload 5, 100), (100, .iload_n 2, 101), (101, .aload_n 0, 102)] : List (Nat × Instr × Nat)), il_131.lookup e.1 = some e.2 := by decide +kernel
theorem li_131_102 : il_131.lookup 102 = some (.getfield 51, 105) := by decide +kernel
theorem bo_131_105_306733 : ∀ e ∈ ([(105, .imul, 106), (106, .aload_n 0, 107)] : List (Nat × Instr × Nat)), il_131.lookup e.1 = some e.2 := by decide +kernel
theorem li_131_107 : il_131.lookup 107 = some (.getfield 54, 110) := by decide +kernel
theorem bo_131_110_62a8bd : ∀ e ∈ ([(110, .iadd, 111), (111, .bipush 16, 113)] : List (Nat × Instr × Nat)), il_131.lookup e.1 = some e.2 := by decide +kernel
theorem li_131_113 : il_131.lookup 113 = some (.invokestatic 111, 116) := by decide +kernel
theorem bo_131_116_af1398 : ∀ e ∈ ([(116, .iload_n 3, 117), (117, .iload 4, 119)] : List (Nat × Instr × Nat)), il_131.lookup e.1 = some e.2 := by decide +kernel
theorem li_131_119 : il_131.lookup 119 = some (.invokevirtual 104, 122) := by decide +kernel
theorem bo_131_122_61bca2 : ∀ e ∈ ([(122, .goto 144, 125)] : List (Nat × Instr × Nat)), il_131.lookup e.1 = some e.2 := by decide +kernel
theorem bo_131_125_e95541 : ∀ e ∈ ([(125, .iconst 0, 126), (126, .istore 6, 128)] : List (Nat × Instr × Nat)), il_131.lookup e.1 = some e.2 := by decide +kernel
theorem bo_131_158_fd1ac1 : ∀ e ∈ ([(158, .aload_n 0, 159), (159, .aload_n 1, 160), (160, .iload_n 2, 161), (161, .iload_n 3, 162), (162, .iload 4, 164), (164, .aload 5, 166)] : List (Nat × Instr × Nat)), il_131.lookup e.1 = some e.2 := by decide +kernel
theorem li_131_166 : il_131.lookup 166 = some (.invokevirtual 116, 169) := by decide +kernel
theorem bo_131_169_66a7ab : ∀ e ∈ ([(169, .goto 97, 172)] : List (Nat × Instr × Nat)), il_131.lookup e.1 = some e.2 := by decide +kernel
theorem bo_131_172_1fd094 : ∀ e ∈ ([(172, .aload_n 1, 173), (173, .iload_n 2, 174)] : List (Nat × Instr × Nat)), il_131.lookup e.1 = some e.2 := by decide +kernel
theorem li_131_174 : il_131.lookup 174 = some (.invokevirtual 60, 177) := by decide +kernel
theorem li_131_177 : il_131.lookup 177 = some (.ifCond .eq 12, 180) := by decide +kernel
theorem bo_131_180_244653 : ∀ e ∈ ([(180, .aload_n 1, 181), (181, .iload_n 2, 182)] : List (Nat × Instr × Nat)), il_131.lookup e.1 = some e.2 := by decide +kernel
theorem li_131_182 : il_131.lookup 182 = some (.invokevirtual 120, 185) := by decide +kernel
theorem bo_131_185_83a65f : ∀ e ∈ ([(185, .iload_n 3, 186)] : List (Nat × Instr × Nat)), il_131.lookup e.1 = some e.2 := by decide +kernel
theorem li_131_186 : il_131.lookup 186 = some (.if_icmp .eq 12, 189) := by decide +kernel
theorem bo_131_208_2f5ac8 : ∀ e ∈ ([(208, .aload_n 1, 209), (209, .iload_n 2, 210)] : List (Nat × Instr × Nat)), il_131.lookup e.1 = some e.2 := by decide +kernel
theorem li_131_210 : il_131.lookup 210 = some (.invokevirtual 60, 213) := by decide +kernel
theorem li_131_213 : il_131.lookup 213 = some (.ifCond .eq 12, 216) := by decide +kernel
theorem bo_131_216_0a9b53 : ∀ e ∈ ([(216, .iload_n 3, 217), (217, .aload_n 1, 218), (218, .iload_n 2, 219)] : List (Nat × Instr × Nat)), il_131.lookup e.1 = some e.2 := by decide +kernel
theorem li_131_219 : il_131.lookup 219 = some (.invokevirtual 120, 222) := by decide +kernel
theorem li_131_222 : il_131.lookup 222 = some (.if_icmp .le 44, 225) := by decide +kernel
theorem bo_131_244_8c288d : ∀ e ∈ ([(244, .aload_n 1, 245), (245, .iload_n 2, 246), (246, .aload_n 1, 247), (247, .iload_n 2, 248)] : List (Nat × Instr × Nat)), il_131.lookup e.1 = some e.2 := by decide +kernel
theorem li_131_248 : il_131.lookup 248 = some (.invokevirtual 120, 251) := by decide +kernel
theorem bo_131_251_b35181 : ∀ e ∈ ([(251, .iload_n 3, 252), (252, .iadd, 253), (253, .aload_n 1, 254), (254, .iload_n 2, 255)] : List (Nat × Instr × Nat)), il_131.lookup e.1 = some e.2 := by decide +kernel
theorem li_131_255 : il_131.lookup 255 = some (.invokevirtual 127, 258) := by decide +kernel
theorem bo_131_258_d8e294 : ∀ e ∈ ([(258, .iconst 1, 259), (259, .iadd, 260)] : List (Nat × Instr × Nat)), il_131.lookup e.1 = some e.2 := by decide +kernel
theorem li_131_260 : il_131.lookup 260 = some (.invokevirtual 124, 263) := by decide +kernel
theorem bo_131_263_440454 : ∀ e ∈ ([(263, .goto 3, 266)] : List (Nat × Instr × Nat)), il_131.lookup e.1 = some e.2 := by decide +kernel
theorem bo_132_175_023fd3 : ∀ e ∈ ([(175, .aload_n 3, 176), (176, .aload_n 3, 177)] : List (Nat × Instr × Nat)), il_132.lookup e.1 = some e.2 := by decide +kernel
theorem li_132_177 : il_132.lookup 177 = some (.getfield 171, 180) := by decide +kernel
theorem bo_132_180_406e84 : ∀ e ∈ ([(180, .iload 8, 182), (182, .iload 9, 184), (184, .iload 10, 186), (186, .aload 4, 188)] : List (Nat × Instr × Nat)), il_132.lookup e.1 = some e.2 := by decide +kernel
theorem li_132_188 : il_132.lookup 188 = some (.getfield 168, 191) := by decide +kernel
theorem li_132_191 : il_132.lookup 191 = some (.invokevirtual 301, 194) := by decide +kernel
theorem bo_132_194_c29a81 : ∀ e ∈ ([(194, .aload_n 3, 195), (195, .dup, 196)] : List (Nat × Instr × Nat)), il_132.lookup e.1 = some e.2 := by decide +kernel
theorem li_132_196 : il_132.lookup 196 = some (.getfield 279, 199) := by decide +kernel
theorem bo_132_199_c60df3 : ∀ e ∈ ([(199, .aload 4, 201)] : List (Nat × Instr × Nat)), il_132.lookup e.1 = some e.2 := by decide +kernel
theorem li_132_201 : il_132.lookup 201 = some (.getfield 168, 204) := by decide +kernel
theorem li_132_204 : il_132.lookup 204 = some (.getfield 156, 207) := by decide +kernel
theorem bo_132_207_7432fb : ∀ e ∈ ([(207, .iadd, 208)] : List (Nat × Instr × Nat)), il_132.lookup e.1 = some e.2 := by decide +kernel
theorem li_132_208 : il_132.lookup 208 = some (.putfield 279, 211) := by decide +kernel
theorem bo_132_211_fe9fe9 : ∀ e ∈ ([(211, .iconst 1, 212)] : List (Nat × Instr × Nat)), il_132.lookup e.1 = some e.2 := by decide +kernel
theorem li_132_212 : il_132.lookup 212 = some (.ireturn, 213) := by decide +kernel
theorem bo_132_0_5a4d31 : ∀ e ∈ ([(0, .aload_n 0, 1), (1, .iload_n 1, 2), (2, .iconst 1, 3), (3, .isub, 4)] : List (Nat × Instr × Nat)), il_132.lookup e.1 = some e.2 := by decide +kernel
theorem li_132_4 : il_132.lookup 4 = some (.invokevirtual 129, 7) := by decide +kernel
theorem bo_132_7_2a6c60 : ∀ e ∈ ([(7, .istore 5, 9), (9, .aload_n 0, 10), (10, .iload_n 1, 11), (11, .iload_n 2, 12)] : List (Nat × Instr × Nat)), il_132.lookup e.1 = some e.2 := by decide +kernel
theorem li_132_12 : il_132.lookup 12 = some (.invokevirtual 282, 15) := by decide +kernel
theorem bo_132_15_093530 : ∀ e ∈ ([(15, .istore 6, 17), (17, .aload_n 0, 18), (18, .iload_n 1, 19), (19, .iconst 1, 20), (20, .isub, 21), (21, .iload 6, 23), (23, .iload_n 2, 24)] : List (Nat × Instr × Nat)), il_132.lookup e.1 = some e.2 := by decide +kernel
theorem li_132_24 : il_132.lookup 24 = some (.invokevirtual 205, 27) := by decide +kernel
theorem bo_132_27_57696c : ∀ e ∈ ([(27, .astore 7, 29), (29, .aload 7, 31), (31, .ifnull 8, 34), (39, .iconst 0, 40)] : List (Nat × Instr × Nat)), il_132.lookup e.1 = some e.2 := by decide +kernel
theorem li_132_40 : il_132.lookup 40 = some (.ireturn, 41) := by decide +kernel
theorem bo_132_27_0c988f : ∀ e ∈ ([(27, .astore 7, 29), (29, .aload 7, 31), (31, .ifnull 8, 34), (34, .iload 5, 36)] : List (Nat × Instr × Nat)), il_132.lookup e.1 = some e.2 := by decide +kernel
theorem li_132_36 : il_132.lookup 36 = some (.ifCond .gt 5, 39) := by decide +kernel
theorem bo_132_41_eec91f : ∀ e ∈ ([(41, .aload 4, 43), (43, .iload 6, 45), (45, .iconst 1, 46), (46, .iadd, 47), (47, .iload 5, 49)] : List (Nat × Instr × Nat)), il_132.lookup e.1 = some e.2 := by decide +kernel
theorem li_132_49 : il_132.lookup 49 = some (.irem, 50) := by decide +kernel
theorem li_132_50 : il_132.lookup 50 = some (.putfield 212, 53) := by decide +kernel
theorem bo_132_53_a422c0 : ∀ e ∈ ([(53, .aload 7, 55)] : List (Nat × Instr × Nat)), il_132.lookup e.1 = some e.2 := by decide +kernel
theorem li_132_55 : il_132.lookup 55 = some (.invokevirtual 285, 58) := by decide +kernel
theorem li_132_58 : il_132.lookup 58 = some (.ifCond .eq 46, 61) := by decide +kernel
theorem bo_132_104_a38d21 : ∀ e ∈ ([(104, .aload 7, 106)] : List (Nat × Instr × Nat)), il_132.lookup e.1 = some e.2 := by decide +kernel
theorem li_132_106 : il_132.lookup 106 = some (.getfield 165, 109) := by decide +kernel
theorem bo_132_109_9ce450 : ∀ e ∈ ([(109, .iconst 0, 110)] : List (Nat × Instr × Nat)), il_132.lookup e.1 = some e.2 := by decide +kernel
theorem li_132_110 : il_132.lookup 110 = some (.invokevirtual 193, 113) := by decide +kernel
theorem bo_132_113_55d908 : ∀ e ∈ ([(113, .istore 8, 115), (115, .aload 7, 117)] : List (Nat × Instr × Nat)), il_132.lookup e.1 = some e.2 := by decide +kernel
theorem li_132_117 : il_132.lookup 117 = some (.getfield 165, 120) := by decide +kernel
theorem bo_132_120_9b2503 : ∀ e ∈ ([(120, .iconst 0, 121)] : List (Nat × Instr × Nat)), il_132.lookup e.1 = some e.2 := by decide +kernel
theorem li_132_121 : il_132.lookup 121 = some (.invokevirtual 254, 124) := by decide +kernel
theorem bo_132_124_7ef869 : ∀ e ∈ ([(124, .istore 9, 126), (126, .aload 7, 128)] : List (Nat × Instr × Nat)), il_132.lookup e.1 = some e.2 := by decide +kernel
theorem li_132_128 : il_132.lookup 128 = some (.getfield 165, 131) := by decide +kernel
theorem bo_132_131_fdd2ba : ∀ e ∈ ([(131, .iconst 0, 132)] : List (Nat × Instr × Nat)), il_132.lookup e.1 = some e.2 := by decide +kernel
theorem li_132_132 : il_132.lookup 132 = some (.invokevirtual 257, 135) := by decide +kernel
theorem bo_132_135_ccf8ec : ∀ e ∈ ([(135, .istore 10, 137), (137, .aload 7, 139)] : List (Nat × Instr × Nat)), il_132.lookup e.1 = some e.2 := by decide +kernel
theorem li_132_139 : il_132.lookup 139 = some (.invokevirtual 288, 142) := by decide +kernel
theorem bo_132_142_6f3fc7 : ∀ e ∈ ([(142, .aload_n 3, 143), (143, .dup, 144)] : List (Nat × Instr × Nat)), il_132.lookup e.1 = some e.2 := by decide +kernel
theorem li_132_144 : il_132.lookup 144 = some (.getfield 276, 147) := by decide +kernel
theorem bo_132_147_a7d9dd : ∀ e ∈ ([(147, .iconst 1, 148), (148, .iadd, 149)] : List (Nat × Instr × Nat)), il_132.lookup e.1 = some e.2 := by decide +kernel
theorem li_132_149 : il_132.lookup 149 = some (.putfield 276, 152) := by decide +kernel
theorem bo_132_152_675174 : ∀ e ∈ ([(152, .aload_n 3, 153)] : List (Nat × Instr × Nat)), il_132.lookup e.1 = some e.2 := by decide +kernel
theorem li_132_153 : il_132.lookup 153 = some (.getfield 295, 156) := by decide +kernel
theorem bo_132_156_ed02b7 : ∀ e ∈ ([(156, .bipush 8, 158)] : List (Nat × Instr × Nat)), il_132.lookup e.1 = some e.2 := by decide +kernel
theorem li_132_158 : il_132.lookup 158 = some (.if_icmp .ne 17, 161) := by decide +kernel
theorem bo_132_161_f5f45a : ∀ e ∈ ([(161, .aload_n 0, 162)] : List (Nat × Instr × Nat)), il_132.lookup e.1 = some e.2 := by decide +kernel
theorem li_132_162 : il_132.lookup 162 = some (.getfield 42, 165) := by decide +kernel
theorem bo_132_165_882680 : ∀ e ∈ ([(165, .aload_n 0, 166)] : List (Nat × Instr × Nat)), il_132.lookup e.1 = some e.2 := by decide +kernel
theorem li_132_166 : il_132.lookup 166 = some (.getfield 103, 169) := by decide +kernel
theorem bo_132_169_1ee6ed : ∀ e ∈ ([(169, .iload 10, 171), (171, .isub, 172)] : List (Nat × Instr × Nat)), il_132.lookup e.1 = some e.2 := by decide +kernel
theorem li_132_172 : il_132.lookup 172 = some (.invokevirtual 298, 175) := by decide +kernel
theorem bo_132_61_769b30 : ∀ e ∈ ([(61, .aload 7, 63)] : List (Nat × Instr × Nat)), il_132.lookup e.1 = some e.2 := by decide +kernel
theorem li_132_63 : il_132.lookup 63 = some (.invokevirtual 288, 66) := by decide +kernel
theorem bo_132_66_17f18e : ∀ e ∈ ([(66, .aload 4, 68), (68, .dup, 69)] : List (Nat × Instr × Nat)), il_132.lookup e.1 = some e.2 := by decide +kernel
theorem li_132_69 : il_132.lookup 69 = some (.getfield 215, 72) := by decide +kernel
theorem bo_132_72_fb31a9 : ∀ e ∈ ([(72, .iconst 1, 73), (73, .iload 6, 75), (75, .ishl, 76), (76, .ior, 77)] : List (Nat × Instr × Nat)), il_132.lookup e.1 = some e.2 := by decide +kernel
theorem li_132_77 : il_132.lookup 77 = some (.putfield 215, 80) := by decide +kernel
theorem bo_132_80_1d0e60 : ∀ e ∈ ([(80, .aload 4, 82)] : List (Nat × Instr × Nat)), il_132.lookup e.1 = some e.2 := by decide +kernel
theorem li_132_82 : il_132.lookup 82 = some (.getfield 215, 85) := by decide +kernel
theorem bo_132_85_a9fbe4 : ∀ e ∈ ([(85, .iconst 1, 86), (86, .iload 5, 88), (88, .ishl, 89), (89, .iconst 1, 90), (90, .isub, 91)] : List (Nat × Instr × Nat)), il_132.lookup e.1 = some e.2 := by decide +kernel
theorem li_132_91 : il_132.lookup 91 = some (.if_icmp .ne 11, 94) := by decide +kernel
theorem bo_132_102_097908 : ∀ e ∈ ([(102, .iconst 1, 103)] : List (Nat × Instr × Nat)), il_132.lookup e.1 = some e.2 := by decide +kernel
theorem li_132_103 : il_132.lookup 103 = some (.ireturn, 104) := by decide +kernel
theorem bo_132_94_b9dca5 : ∀ e ∈ ([(94, .aload_n 0, 95), (95, .iload_n 2, 96), (96, .aload_n 3, 97), (97, .aload 4, 99)] : List (Nat × Instr × Nat)), il_132.lookup e.1 = some e.2 := by decide +kernel
theorem li_132_99 : il_132.lookup 99 = some (.invokevirtual 291, 102) := by decide +kernel
theorem bo_132_39_4dcc25 : ∀ e ∈ ([(39, .iconst 0, 40)] : List (Nat × Instr × Nat)), il_132.lookup e.1 = some e.2 := by decide +kernel
theorem bo_133_100_9ad42e : ∀ e ∈ ([(100, .istore 6, 102), (102, .iload 6, 104)] : List (Nat × Instr × Nat)), il_133.lookup e.1 = some e.2 := by decide +kernel
theorem li_133_104 : il_133.lookup 104 = some (.ifCond .ne 14, 107) := by decide +kernel
theorem bo_133_118_6046f2 : ∀ e ∈ ([(118, .iinc 5 (-1), 121), (121, .goto (-88), 124)] : List (Nat × Instr × Nat)), il_133.lookup e.1 = some e.2 := by decide +kernel
theorem bo_133_107_68dab3 : ∀ e ∈ ([(107, .aload_n 3, 108), (108, .dup, 109)] : List (Nat × Instr × Nat)), il_133.lookup e.1 = some e.2 := by decide +kernel
theorem li_133_109 : il_133.lookup 109 = some (.getfield 244, 112) := by decide +kernel
theorem bo_133_112_dbfc8f : ∀ e ∈ ([(112, .iconst 1, 113), (113, .iadd, 114)] : List (Nat × Instr × Nat)), il_133.lookup e.1 = some e.2 := by decide +kernel
theorem li_133_114 : il_133.lookup 114 = some (.putfield 244, 117) := by decide +kernel
theorem li_133_117 : il_133.lookup 117 = some (.return_, 118) := by decide +kernel
theorem bo_133_60_3e1655 : ∀ e ∈ ([(60, .aload_n 3, 61), (61, .dup, 62)] : List (Nat × Instr × Nat)), il_133.lookup e.1 = some e.2 := by decide +kernel
theorem li_133_62 : il_133.lookup 62 = some (.getfield 233, 65) := by decide +kernel
theorem bo_133_65_dc096c : ∀ e ∈ ([(65, .iconst 1, 66), (66, .iadd, 67)] : List (Nat × Instr × Nat)), il_133.lookup e.1 = some e.2 := by decide +kernel
theorem li_133_67 : il_133.lookup 67 = some (.putfield 233, 70) := by decide +kernel
theorem li_133_70 : il_133.lookup 70 = some (.return_, 71) := by decide +kernel
theorem bo_133_33_1dc721 : ∀ e ∈ ([(33, .iload 5, 35)] : List (Nat × Instr × Nat)), il_133.lookup e.1 = some e.2 := by decide +kernel
theorem li_133_35 : il_133.lookup 35 = some (.ifCond .lt 89, 38) := by decide +kernel
theorem li_133_124 : il_133.lookup 124 = some (.return_, 125) := by decide +kernel
theorem bo_133_38_883a8f : ∀ e ∈ ([(38, .aload_n 0, 39), (39, .iload_n 1, 40), (40, .iload_n 2, 41), (41, .aload 4, 43)] : List (Nat × Instr × Nat)), il_133.lookup e.1 = some e.2 := by decide +kernel
theorem li_133_43 : il_133.lookup 43 = some (.invokevirtual 226, 46) := by decide +kernel
theorem li_133_46 : il_133.lookup 46 = some (.ifCond .eq 14, 49) := by decide +kernel
theorem bo_133_49_cb3907 : ∀ e ∈ ([(49, .aload_n 0, 50), (50, .iload_n 1, 51), (51, .iload_n 2, 52), (52, .aload 4, 54)] : List (Nat × Instr × Nat)), il_133.lookup e.1 = some e.2 := by decide +kernel
theorem li_133_54 : il_133.lookup 54 = some (.invokevirtual 230, 57) := by decide +kernel
theorem li_133_57 : il_133.lookup 57 = some (.ifCond .ne 14, 60) := by decide +kernel
theorem bo_133_71_2ba9bf : ∀ e ∈ ([(71, .iload 5, 73)] : List (Nat × Instr × Nat)), il_133.lookup e.1 = some e.2 := by decide +kernel
theorem li_133_73 : il_133.lookup 73 = some (.ifCond .ne 4, 76) := by decide +kernel
theorem bo_133_77_9a98ff : ∀ e ∈ ([(77, .iload_n 1, 78)] : List (Nat × Instr × Nat)), il_133.lookup e.1 = some e.2 := by decide +kernel
theorem li_133_78 : il_133.lookup 78 = some (.ifCond .ne 13, 81) := by decide +kernel
theorem bo_133_91_9918a3 : ∀ e ∈ ([(91, .aload_n 0, 92), (92, .iload_n 1, 93), (93, .iload_n 2, 94), (94, .aload_n 3, 95), (95, .aload 4, 97)] : List (Nat × Instr × Nat)), il_133.lookup e.1 = some e.2 := by decide +kernel
theorem li_133_97 : il_133.lookup 97 = some (.invokevirtual 240, 100) := by decide +kernel
theorem bo_133_81_021ec7 : ∀ e ∈ ([(81, .aload_n 0, 82), (82, .aload_n 3, 83), (83, .aload 4, 85)] : List (Nat × Instr × Nat)), il_133.lookup e.1 = some e.2 := by decide +kernel
theorem li_133_85 : il_133.lookup 85 = some (.invokevirtual 236, 88) := by decide +kernel
theorem bo_133_88_92252f : ∀ e ∈ ([(88, .goto 12, 91)] : List (Nat × Instr × Nat)), il_133.lookup e.1 = some e.2 := by decide +kernel
theorem li_133_76 : il_133.lookup 76 = some (.return_, 77) := by decide +kernel
theorem bo_133_0_264884 : ∀ e ∈ ([(0, .aload_n 0, 1), (1, .iload_n 1, 2)] : List (Nat × Instr × Nat)), il_133.lookup e.1 = some e.2 := by decide +kernel
theorem li_133_2 : il_133.lookup 2 = some (.invokevirtual 54, 5) := by decide +kernel
theorem bo_133_5_cc2bb6 : ∀ e ∈ ([(5, .astore_n 3, 6), (6, .aload_n 0, 7), (7, .iload_n 1, 8), (8, .iload_n 2, 9)] : List (Nat × Instr × Nat)), il_133.lookup e.1 = some e.2 := by decide +kernel
theorem li_133_9 : il_133.lookup 9 = some (.invokevirtual 141, 12) := by decide +kernel
theorem bo_133_12_87d625 : ∀ e ∈ ([(12, .astore 4, 14), (14, .aload_n 3, 15), (15, .ifnull 8, 18)] : List (Nat × Instr × Nat)), il_133.lookup e.1 = some e.2 := by decide +kernel
theorem li_133_23 : il_133.lookup 23 = some (.return_, 24) := by decide +kernel
theorem bo_133_12_efe1d9 : ∀ e ∈ ([(12, .astore 4, 14), (14, .aload_n 3, 15), (15, .ifnull 8, 18), (18, .aload 4, 20), (20, .ifnonnull 4, 23)] : List (Nat × Instr × Nat)), il_133.lookup e.1 = some e.2 := by decide +kernel
theorem bo_133_12_d0c00c : ∀ e ∈ ([(12, .astore 4, 14), (14, .aload_n 3, 15), (15, .ifnull 8, 18), (18, .aload 4, 20), (20, .ifnonnull 4, 23), (24, .aload_n 0, 25)] : List (Nat × Instr × Nat)), il_133.lookup e.1 = some e.2 := by decide +kernel
theorem li_133_25 : il_133.lookup 25 = some (.getfield 12, 28) := by decide +kernel
theorem li_133_28 : il_133.lookup 28 = some (.getfield 223, 31) := by decide +kernel
theorem bo_133_31_c379e3 : ∀ e ∈ ([(31, .istore 5, 33)] : List (Nat × Instr × Nat)), il_133.lookup e.1 = some e.2 := by decide +kernel
theorem bo_134_49_32e12e : ∀ e ∈ ([(49, .iinc 1 1, 52), (52, .goto (-39), 55)] : List (Nat × Instr × Nat)), il_134.lookup e.1 = some e.2 := by decide +kernel
theorem bo_134_13_1f05a9 : ∀ e ∈ ([(13, .iload_n 1, 14), (14, .aload_n 0, 15)] : List (Nat × Instr × Nat)), il_134.lookup e.1 = some e.2 := by decide +kernel
theorem li_134_15 : il_134.lookup 15 = some (.getfield 57, 18) := by decide +kernel
theorem li_134_18 : il_134.lookup 18 = some (.if_icmp .ge 37, 21) := by decide +kernel
theorem li_134_55 : il_134.lookup 55 = some (.return_, 56) := by decide +kernel
theorem bo_134_21_13696e : ∀ e ∈ ([(21, .iload_n 1, 22), (22, .aload_n 0, 23)] : List (Nat × Instr × Nat)), il_134.lookup e.1 = some e.2 := by decide +kernel
theorem li_134_23 : il_134.lookup 23 = some (.getfield 11, 26) := by decide +kernel
theorem li_134_26 : il_134.lookup 26 = some (.arraylength, 27) := by decide +kernel
theorem li_134_27 : il_134.lookup 27 = some (.if_icmp .ge 28, 30) := by decide +kernel
theorem bo_134_30_0b4e4a : ∀ e ∈ ([(30, .aload_n 0, 31)] : List (Nat × Instr × Nat)), il_134.lookup e.1 = some e.2 := by decide +kernel
theorem li_134_31 : il_134.lookup 31 = some (.getfield 11, 34) := by decide +kernel
theorem bo_134_34_130638 : ∀ e ∈ ([(34, .iload_n 1, 35)] : List (Nat × Instr × Nat)), il_134.lookup e.1 = some e.2 := by decide +kernel
theorem li_134_35 : il_134.lookup 35 = some (.aaload, 36) := by decide +kernel
theorem bo_134_36_4ec923 : ∀ e ∈ ([(36, .astore_n 2, 37), (37, .aload_n 2, 38), (38, .ifnull 11, 41), (41, .aload_n 2, 42), (42, .aload_n 2, 43)] : List (Nat × Instr × Nat)), il_134.lookup e.1 = some e.2 := by decide +kernel
theorem li_134_43 : il_134.lookup 43 = some (.getfield 98, 46) := by decide +kernel
theorem li_134_46 : il_134.lookup 46 = some (.putfield 101, 49) := by decide +kernel
theorem bo_134_0_8d5162 : ∀ e ∈ ([(0, .aload_n 0, 1)] : List (Nat × Instr × Nat)), il_134.lookup e.1 = some e.2 := by decide +kernel
theorem li_134_1 : il_134.lookup 1 = some (.getfield 27, 4) := by decide +kernel
theorem bo_134_4_e962e2 : ∀ e ∈ ([(4, .aload_n 0, 5)] : List (Nat × Instr × Nat)), il_134.lookup e.1 = some e.2 := by decide +kernel
theorem li_134_5 : il_134.lookup 5 = some (.getfield 24, 8) := by decide +kernel
theorem li_134_8 : il_134.lookup 8 = some (.invokevirtual 87, 11) := by decide +kernel
theorem bo_134_11_274bbd : ∀ e ∈ ([(11, .iconst 0, 12), (12, .istore_n 1, 13)] : List (Nat × Instr × Nat)), il_134.lookup e.1 = some e.2 := by decide +kernel
theorem bo_135_47_e6a0ca : ∀ e ∈ ([(47, .iinc 1 1, 50), (50, .goto (-27), 53)] : List (Nat × Instr × Nat)), il_135.lookup e.1 = some e.2 := by decide +kernel
theorem bo_135_23_31ad6f : ∀ e ∈ ([(23, .iload_n 1, 24), (24, .aload_n 0, 25)] : List (Nat × Instr × Nat)), il_135.lookup e.1 = some e.2 := by decide +kernel
theorem li_135_25 : il_135.lookup 25 = some (.getfield 50, 28) := by decide +kernel
theorem bo_135_28_533662 : ∀ e ∈ ([(28, .iconst 1, 29), (29, .iadd, 30)] : List (Nat × Instr × Nat)), il_135.lookup e.1 = some e.2 := by decide +kernel
theorem li_135_30 : il_135.lookup 30 = some (.if_icmp .gt 23, 33) := by decide +kernel
theorem li_135_53 : il_135.lookup 53 = some (.return_, 54) := by decide +kernel
theorem bo_135_33_9ed66c : ∀ e ∈ ([(33, .aload_n 0, 34), (34, .iload_n 1, 35)] : List (Nat × Instr × Nat)), il_135.lookup e.1 = some e.2 := by decide +kernel
theorem li_135_35 : il_135.lookup 35 = some (.invokevirtual 54, 38) := by decide +kernel
theorem bo_135_38_bdbae6 : ∀ e ∈ ([(38, .astore_n 2, 39), (39, .aload_n 2, 40), (40, .ifnull 7, 43)] : List (Nat × Instr × Nat)), il_135.lookup e.1 = some e.2 := by decide +kernel
theorem bo_135_38_7730ed : ∀ e ∈ ([(38, .astore_n 2, 39), (39, .aload_n 2, 40), (40, .ifnull 7, 43), (43, .aload_n 2, 44)] : List (Nat × Instr × Nat)), il_135.lookup e.1 = some e.2 := by decide +kernel
theorem li_135_44 : il_135.lookup 44 = some (.invokevirtual 308, 47) := by decide +kernel
theorem bo_135_0_264884 : ∀ e ∈ ([(0, .aload_n 0, 1), (1, .aload_n 0, 2)] : List (Nat × Instr × Nat)), il_135.lookup e.1 = some e.2 := by decide +kernel
theorem li_135_2 : il_135.lookup 2 = some (.getfield 126, 5) := by decide +kernel
theorem li_135_5 : il_135.lookup 5 = some (.putfield 100, 8) := by decide +kernel
theorem bo_135_8_0adad6 : ∀ e ∈ ([(8, .aload_n 0, 9), (9, .iconst 0, 10)] : List (Nat × Instr × Nat)), il_135.lookup e.1 = some e.2 := by decide +kernel
theorem li_135_10 : il_135.lookup 10 = some (.putfield 126, 13) := by decide +kernel
theorem bo_135_13_1f05a9 : ∀ e ∈ ([(13, .aload_n 0, 14), (14, .aload_n 0, 15)] : List (Nat × Instr × Nat)), il_135.lookup e.1 = some e.2 := by decide +kernel
theorem li_135_15 : il_135.lookup 15 = some (.getfield 138, 18) := by decide +kernel
theorem li_135_18 : il_135.lookup 18 = some (.putfield 97, 21) := by decide +kernel
theorem bo_135_21_13696e : ∀ e ∈ ([(21, .iconst 0, 22), (22, .istore_n 1, 23)] : List (Nat × Instr × Nat)), il_135.lookup e.1 = some e.2 := by decide +kernel
theorem bo_136_35_031a71 : ∀ e ∈ ([(35, .iinc 3 1, 38), (38, .goto (-23), 41)] : List (Nat × Instr × Nat)), il_136.lookup e.1 = some e.2 := by decide +kernel
theorem bo_136_54_aa1375 : ∀ e ∈ ([(54, .iload_n 2, 55), (55, .aload_n 0, 56), (56, .iload_n 1, 57)] : List (Nat × Instr × Nat)), il_136.lookup e.1 = some e.2 := by decide +kernel
theorem li_136_57 : il_136.lookup 57 = some (.invokevirtual 129, 60) := by decide +kernel
theorem li_136_60 : il_136.lookup 60 = some (.if_icmp .ge 15, 63) := by decide +kernel
theorem bo_136_75_4932fc : ∀ e ∈ ([(75, .iinc 1 (-1), 78), (78, .goto (-30), 81)] : List (Nat × Instr × Nat)), il_136.lookup e.1 = some e.2 := by decide +kernel
theorem bo_136_63_f9b671 : ∀ e ∈ ([(63, .aload_n 0, 64), (64, .iload_n 1, 65), (65, .iload_n 2, 66)] : List (Nat × Instr × Nat)), il_136.lookup e.1 = some e.2 := by decide +kernel
theorem li_136_66 : il_136.lookup 66 = some (.invokevirtual 183, 69) := by decide +kernel
theorem bo_136_69_2cd99d : ∀ e ∈ ([(69, .iinc 2 1, 72), (72, .goto (-18), 75)] : List (Nat × Instr × Nat)), il_136.lookup e.1 = some e.2 := by decide +kernel
theorem bo_136_99_aace6c : ∀ e ∈ ([(99, .aload_n 0, 100), (100, .dup, 101)] : List (Nat × Instr × Nat)), il_136.lookup e.1 = some e.2 := by decide +kernel
theorem li_136_101 : il_136.lookup 101 = some (.getfield 103, 104) := by decide +kernel
theorem bo_136_104_df8874 : ∀ e ∈ ([(104, .iconst 1, 105), (105, .iadd, 106)] : List (Nat × Instr × Nat)), il_136.lookup e.1 = some e.2 := by decide +kernel
theorem li_136_106 : il_136.lookup 106 = some (.putfield 103, 109) := by decide +kernel
theorem li_136_109 : il_136.lookup 109 = some (.return_, 110) := by decide +kernel
theorem bo_136_48_04c55a : ∀ e ∈ ([(48, .iload_n 1, 49)] : List (Nat × Instr × Nat)), il_136.lookup e.1 = some e.2 := by decide +kernel
theorem li_136_49 : il_136.lookup 49 = some (.ifCond .lt 32, 52) := by decide +kernel
theorem bo_136_81_6cfd26 : ∀ e ∈ ([(81, .aload_n 0, 82)] : List (Nat × Instr × Nat)), il_136.lookup e.1 = some e.2 := by decide +kernel
theorem li_136_82 : il_136.lookup 82 = some (.getfield 126, 85) := by decide +kernel
theorem li_136_85 : il_136.lookup 85 = some (.ifCond .eq 14, 88) := by decide +kernel
theorem bo_136_88_92252f : ∀ e ∈ ([(88, .aload_n 0, 89)] : List (Nat × Instr × Nat)), il_136.lookup e.1 = some e.2 := by decide +kernel
theorem li_136_89 : il_136.lookup 89 = some (.getfield 132, 92) := by decide +kernel
theorem li_136_92 : il_136.lookup 92 = some (.ifCond .ne 7, 95) := by decide +kernel
theorem bo_136_95_076086 : ∀ e ∈ ([(95, .aload_n 0, 96)] : List (Nat × Instr × Nat)), il_136.lookup e.1 = some e.2 := by decide +kernel
theorem li_136_96 : il_136.lookup 96 = some (.invokevirtual 187, 99) := by decide +kernel
theorem bo_136_52_9f6391 : ∀ e ∈ ([(52, .iconst 0, 53), (53, .istore_n 2, 54)] : List (Nat × Instr × Nat)), il_136.lookup e.1 = some e.2 := by decide +kernel
theorem bo_136_15_d45c32 : ∀ e ∈ ([(15, .iload_n 3, 16), (16, .iload_n 2, 17)] : List (Nat × Instr × Nat)), il_136.lookup e.1 = some e.2 := by decide +kernel
theorem li_136_17 : il_136.lookup 17 = some (.if_icmp .ge 24, 20) := by decide +kernel
theorem bo_136_41_45abaf : ∀ e ∈ ([(41, .aload_n 0, 42)] : List (Nat × Instr × Nat)), il_136.lookup e.1 = some e.2 := by decide +kernel
theorem li_136_42 : il_136.lookup 42 = some (.getfield 50, 45) := by decide +kernel
theorem bo_136_45_27c2e9 : ∀ e ∈ ([(45, .iconst 1, 46), (46, .iadd, 47), (47, .istore_n 1, 48)] : List (Nat × Instr × Nat)), il_136.lookup e.1 = some e.2 := by decide +kernel
theorem bo_136_20_aa2fda : ∀ e ∈ ([(20, .aload_n 1, 21), (21, .iload_n 3, 22)] : List (Nat × Instr × Nat)), il_136.lookup e.1 = some e.2 := by decide +kernel
theorem li_136_22 : il_136.lookup 22 = some (.aaload, 23) := by decide +kernel
theorem bo_136_23_cbbb6b : ∀ e ∈ ([(23, .astore 4, 25), (25, .aload 4, 27), (27, .ifnull 8, 30), (30, .aload 4, 32)] : List (Nat × Instr × Nat)), il_136.lookup e.1 = some e.2 := by decide +kernel
theorem li_136_32 : il_136.lookup 32 = some (.invokevirtual 180, 35) := by decide +kernel
theorem bo_136_0_264884 : ∀ e ∈ ([(0, .aload_n 0, 1), (1, .iconst 1, 2)] : List (Nat × Instr × Nat)), il_136.lookup e.1 = some e.2 := by decide +kernel
theorem li_136_2 : il_136.lookup 2 = some (.putfield 106, 5) := by decide +kernel
theorem bo_136_5_7b98d2 : ∀ e ∈ ([(5, .aload_n 0, 6)] : List (Nat × Instr × Nat)), il_136.lookup e.1 = some e.2 := by decide +kernel
theorem li_136_6 : il_136.lookup 6 = some (.getfield 35, 9) := by decide +kernel
theorem bo_136_9_16efa2 : ∀ e ∈ ([(9, .astore_n 1, 10), (10, .aload_n 1, 11)] : List (Nat × Instr × Nat)), il_136.lookup e.1 = some e.2 := by decide +kernel
theorem li_136_11 : il_136.lookup 11 = some (.arraylength, 12) := by decide +kernel
theorem bo_136_12_76c768 : ∀ e ∈ ([(12, .istore_n 2, 13), (13, .iconst 0, 14), (14, .istore_n 3, 15)] : List (Nat × Instr × Nat)), il_136.lookup e.1 = some e.2 := by decide +kernel
theorem bo_137_17_03196b : ∀ e ∈ ([(17, .iload_n 2, 18), (18, .iload_n 1, 19)] : List (Nat × Instr × Nat)), il_137.lookup e.1 = some e.2 := by decide +kernel
theorem li_137_19 : il_137.lookup 19 = some (.if_icmp .ge 28, 22) := by decide +kernel
theorem bo_137_47_d7fa8e : ∀ e ∈ ([(47, .iload_n 1, 48)] : List (Nat × Instr × Nat)), il_137.lookup e.1 = some e.2 := by decide +kernel
theorem li_137_48 : il_137.lookup 48 = some (.ireturn, 49) := by decide +kernel
theorem bo_137_22_60ac31 : ∀ e ∈ ([(22, .aload_n 0, 23)] : List (Nat × Instr × Nat)), il_137.lookup e.1 = some e.2 := by decide +kernel
theorem li_137_23 : il_137.lookup 23 = some (.getfield 31, 26) := by decide +kernel
theorem li_137_26 : il_137.lookup 26 = some (.invokevirtual 114, 29) := by decide +kernel
theorem li_137_29 : il_137.lookup 29 = some (.ifCond .eq 5, 32) := by decide +kernel
theorem bo_137_34_130638 : ∀ e ∈ ([(34, .aload_n 0, 35)] : List (Nat × Instr × Nat)), il_137.lookup e.1 = some e.2 := by decide +kernel
theorem li_137_35 : il_137.lookup 35 = some (.getfield 31, 38) := by decide +kernel
theorem li_137_38 : il_137.lookup 38 = some (.invokevirtual 117, 41) := by decide +kernel
theorem bo_137_41_8598b5 : ∀ e ∈ ([(41, .iinc 2 1, 44), (44, .goto (-27), 47)] : List (Nat × Instr × Nat)), il_137.lookup e.1 = some e.2 := by decide +kernel
theorem bo_137_32_191034 : ∀ e ∈ ([(32, .iload_n 2, 33)] : List (Nat × Instr × Nat)), il_137.lookup e.1 = some e.2 := by decide +kernel
theorem li_137_33 : il_137.lookup 33 = some (.ireturn, 34) := by decide +kernel
theorem bo_137_0_264884 : ∀ e ∈ ([(0, .iload_n 1, 1), (1, .iconst 1, 2)] : List (Nat × Instr × Nat)), il_137.lookup e.1 = some e.2 := by decide +kernel
theorem li_137_2 : il_137.lookup 2 = some (.if_icmp .lt 10, 5) := by decide +kernel
theorem bo_137_12_d0d0c9 : ∀ e ∈ ([(12, .ldc 51, 14)] : List (Nat × Instr × Nat)), il_137.lookup e.1 = some e.2 := by decide +kernel
theorem li_137_14 : il_137.lookup 14 = some (.ireturn, 15) := by decide +kernel
theorem bo_137_5_ca77c4 : ∀ e ∈ ([(5, .iload_n 1, 6), (6, .sipush 200, 9)] : List (Nat × Instr × Nat)), il_137.lookup e.1 = some e.2 := by decide +kernel
theorem li_137_9 : il_137.lookup 9 = some (.if_icmp .le 6, 12) := by decide +kernel
theorem bo_137_15_d45c32 : ∀ e ∈ ([(15, .iconst 0, 16), (16, .istore_n 2, 17)] : List (Nat × Instr × Nat)), il_137.lookup e.1 = some e.2 := by decide +kernel
theorem bo_138_47_400428 : ∀ e ∈ ([(47, .iload_n 1, 48), (48, .bipush 54, 50)] : List (Nat × Instr × Nat)), il_138.lookup e.1 = some e.2 := by decide +kernel
theorem li_138_50 : il_138.lookup 50 = some (.if_icmp .ge 29, 53) := by decide +kernel
theorem bo_138_79_febf86 : ∀ e ∈ ([(79, .iconst 1, 80)] : List (Nat × Instr × Nat)), il_138.lookup e.1 = some e.2 := by decide +kernel
theorem li_138_80 : il_138.lookup 80 = some (.ireturn, 81) := by decide +kernel
theorem bo_138_53_a422c0 : ∀ e ∈ ([(53, .aload_n 0, 54)] : List (Nat × Instr × Nat)), il_138.lookup e.1 = some e.2 := by decide +kernel
theorem li_138_54 : il_138.lookup 54 = some (.getfield 114, 57) := by decide +kernel
theorem bo_138_57_a9d9a3 : ∀ e ∈ ([(57, .iload_n 1, 58)] : List (Nat × Instr × Nat)), il_138.lookup e.1 = some e.2 := by decide +kernel
theorem li_138_58 : il_138.lookup 58 = some (.iaload, 59) := by decide +kernel
theorem li_138_59 : il_138.lookup 59 = some (.ifCond .gt 12, 62) := by decide +kernel
theorem bo_138_71_2ba9bf : ∀ e ∈ ([(71, .iconst 0, 72)] : List (Nat × Instr × Nat)), il_138.lookup e.1 = some e.2 := by decide +kernel
theorem li_138_72 : il_138.lookup 72 = some (.ireturn, 73) := by decide +kernel
theorem bo_138_62_13a257 : ∀ e ∈ ([(62, .aload_n 0, 63)] : List (Nat × Instr × Nat)), il_138.lookup e.1 = some e.2 := by decide +kernel
theorem li_138_63 : il_138.lookup 63 = some (.getfield 129, 66) := by decide +kernel
theorem bo_138_66_831ba3 : ∀ e ∈ ([(66, .iload_n 1, 67)] : List (Nat × Instr × Nat)), il_138.lookup e.1 = some e.2 := by decide +kernel
theorem li_138_67 : il_138.lookup 67 = some (.iaload, 68) := by decide +kernel
theorem li_138_68 : il_138.lookup 68 = some (.ifCond .le 5, 71) := by decide +kernel
theorem bo_138_73_a1e9e1 : ∀ e ∈ ([(73, .iinc 1 1, 76), (76, .goto (-29), 79)] : List (Nat × Instr × Nat)), il_138.lookup e.1 = some e.2 := by decide +kernel
theorem bo_138_22_13b32e : ∀ e ∈ ([(22, .iload_n 1, 23), (23, .bipush 18, 25)] : List (Nat × Instr × Nat)), il_138.lookup e.1 = some e.2 := by decide +kernel
theorem li_138_25 : il_138.lookup 25 = some (.if_icmp .ge 20, 28) := by decide +kernel
theorem bo_138_45_b7d017 : ∀ e ∈ ([(45, .iconst 0, 46), (46, .istore_n 1, 47)] : List (Nat × Instr × Nat)), il_138.lookup e.1 = some e.2 := by decide +kernel
theorem bo_138_28_f39cd0 : ∀ e ∈ ([(28, .aload_n 0, 29)] : List (Nat × Instr × Nat)), il_138.lookup e.1 = some e.2 := by decide +kernel
theorem li_138_29 : il_138.lookup 29 = some (.getfield 93, 32) := by decide +kernel
theorem bo_138_32_191034 : ∀ e ∈ ([(32, .iload_n 1, 33)] : List (Nat × Instr × Nat)), il_138.lookup e.1 = some e.2 := by decide +kernel
theorem li_138_33 : il_138.lookup 33 = some (.iaload, 34) := by decide +kernel
theorem li_138_34 : il_138.lookup 34 = some (.ifCond .le 5, 37) := by decide +kernel
theorem bo_138_39_fa6643 : ∀ e ∈ ([(39, .iinc 1 1, 42), (42, .goto (-20), 45)] : List (Nat × Instr × Nat)), il_138.lookup e.1 = some e.2 := by decide +kernel
theorem bo_138_37_a21c9f : ∀ e ∈ ([(37, .iconst 0, 38)] : List (Nat × Instr × Nat)), il_138.lookup e.1 = some e.2 := by decide +kernel
theorem li_138_38 : il_138.lookup 38 = some (.ireturn, 39) := by decide +kernel
theorem bo_138_0_8d5162 : ∀ e ∈ ([(0, .aload_n 0, 1)] : List (Nat × Instr × Nat)), il_138.lookup e.1 = some e.2 := by decide +kernel
theorem li_138_1 : il_138.lookup 1 = some (.getfield 271, 4) := by decide +kernel
theorem bo_138_4_e962e2 : ∀ e ∈ ([(4, .aload_n 0, 5)] : List (Nat × Instr × Nat)), il_138.lookup e.1 = some e.2 := by decide +kernel
theorem li_138_5 : il_138.lookup 5 = some (.getfield 275, 8) := by decide +kernel
theorem li_138_8 : il_138.lookup 8 = some (.if_icmp .lt 10, 11) := by decide +kernel
theorem bo_138_18_2b31d8 : ∀ e ∈ ([(18, .iconst 0, 19)] : List (Nat × Instr × Nat)), il_138.lookup e.1 = some e.2 := by decide +kernel
theorem li_138_19 : il_138.lookup 19 = some (.ireturn, 20) := by decide +kernel
theorem bo_138_11_081257 : ∀ e ∈ ([(11, .aload_n 0, 12)] : List (Nat × Instr × Nat)), il_138.lookup e.1 = some e.2 := by decide +kernel
theorem li_138_12 : il_138.lookup 12 = some (.getfield 268, 15) := by decide +kernel
theorem li_138_15 : il_138.lookup 15 = some (.ifCond .le 5, 18) := by decide +kernel
theorem bo_138_20_aa2fda : ∀ e ∈ ([(20, .iconst 0, 21), (21, .istore_n 1, 22)] : List (Nat × Instr × Nat)), il_138.lookup e.1 = some e.2 := by decide +kernel
theorem bo_139_25_6328ed : ∀ e ∈ ([(25, .iload_n 3, 26), (26, .aload_n 0, 27)] : List (Nat × Instr × Nat)), il_139.lookup e.1 = some e.2 := by decide +kernel
theorem li_139_27 : il_139.lookup 27 = some (.getfield 114, 30) := by decide +kernel
theorem bo_139_30_0b4e4a : ∀ e ∈ ([(30, .iload_n 1, 31)] : List (Nat × Instr × Nat)), il_139.lookup e.1 = some e.2 := by decide +kernel
theorem li_139_31 : il_139.lookup 31 = some (.iaload, 32) := by decide +kernel
theorem li_139_32 : il_139.lookup 32 = some (.if_icmp .ge 69, 35) := by decide +kernel
theorem bo_139_101_9e3292 : ∀ e ∈ ([(101, .aload_n 0, 102)] : List (Nat × Instr × Nat)), il_139.lookup e.1 = some e.2 := by decide +kernel
theorem li_139_102 : il_139.lookup 102 = some (.getfield 129, 105) := by decide +kernel
theorem bo_139_105_306733 : ∀ e ∈ ([(105, .iload_n 1, 106), (106, .dup2, 107)] : List (Nat × Instr × Nat)), il_139.lookup e.1 = some e.2 := by decide +kernel
theorem li_139_107 : il_139.lookup 107 = some (.iaload, 108) := by decide +kernel
theorem bo_139_108_15ff6a : ∀ e ∈ ([(108, .iconst 1, 109), (109, .iadd, 110)] : List (Nat × Instr × Nat)), il_139.lookup e.1 = some e.2 := by decide +kernel
theorem li_139_110 : il_139.lookup 110 = some (.iastore, 111) := by decide +kernel
theorem bo_139_111_87438c : ∀ e ∈ ([(111, .aload_n 0, 112)] : List (Nat × Instr × Nat)), il_139.lookup e.1 = some e.2 := by decide +kernel
theorem li_139_112 : il_139.lookup 112 = some (.getfield 114, 115) := by decide +kernel
theorem bo_139_115_b332e5 : ∀ e ∈ ([(115, .iload_n 1, 116), (116, .iconst 0, 117)] : List (Nat × Instr × Nat)), il_139.lookup e.1 = some e.2 := by decide +kernel
theorem li_139_117 : il_139.lookup 117 = some (.iastore, 118) := by decide +kernel
theorem bo_139_118_c412ec : ∀ e ∈ ([(118, .aload_n 0, 119)] : List (Nat × Instr × Nat)), il_139.lookup e.1 = some e.2 := by decide +kernel
theorem li_139_119 : il_139.lookup 119 = some (.getfield 117, 122) := by decide +kernel
theorem bo_139_122_0ea0fe : ∀ e ∈ ([(122, .iload_n 1, 123), (123, .iconst 0, 124)] : List (Nat × Instr × Nat)), il_139.lookup e.1 = some e.2 := by decide +kernel
theorem li_139_124 : il_139.lookup 124 = some (.iastore, 125) := by decide +kernel
theorem li_139_125 : il_139.lookup 125 = some (.return_, 126) := by decide +kernel
theorem bo_139_35_a976ef : ∀ e ∈ ([(35, .aload_n 0, 36)] : List (Nat × Instr × Nat)), il_139.lookup e.1 = some e.2 := by decide +kernel
theorem li_139_36 : il_139.lookup 36 = some (.getfield 138, 39) := by decide +kernel
theorem bo_139_39_afb3ca : ∀ e ∈ ([(39, .iconst 4, 40), (40, .iload_n 2, 41), (41, .imul, 42), (42, .iload_n 3, 43), (43, .iadd, 44), (44, .aload_n 0, 45)] : List (Nat × Instr × Nat)), il_139.lookup e.1 = some e.2 := by decide +kernel
theorem li_139_45 : il_139.lookup 45 = some (.getfield 120, 48) := by decide +kernel
theorem bo_139_48_7d44c6 : ∀ e ∈ ([(48, .iconst 4, 49), (49, .iload_n 1, 50), (50, .imul, 51), (51, .iload_n 3, 52), (52, .iadd, 53)] : List (Nat × Instr × Nat)), il_139.lookup e.1 = some e.2 := by decide +kernel
theorem li_139_53 : il_139.lookup 53 = some (.iaload, 54) := by decide +kernel
theorem li_139_54 : il_139.lookup 54 = some (.iastore, 55) := by decide +kernel
theorem bo_139_55_bd1207 : ∀ e ∈ ([(55, .aload_n 0, 56)] : List (Nat × Instr × Nat)), il_139.lookup e.1 = some e.2 := by decide +kernel
theorem li_139_56 : il_139.lookup 56 = some (.getfield 141, 59) := by decide +kernel
theorem bo_139_59_f990b3 : ∀ e ∈ ([(59, .iconst 4, 60), (60, .iload_n 2, 61), (61, .imul, 62), (62, .iload_n 3, 63), (63, .iadd, 64), (64, .aload_n 0, 65)] : List (Nat × Instr × Nat)), il_139.lookup e.1 = some e.2 := by decide +kernel
theorem li_139_65 : il_139.lookup 65 = some (.getfield 123, 68) := by decide +kernel
theorem bo_139_68_f3ff52 : ∀ e ∈ ([(68, .iconst 4, 69), (69, .iload_n 1, 70), (70, .imul, 71), (71, .iload_n 3, 72), (72, .iadd, 73)] : List (Nat × Instr × Nat)), il_139.lookup e.1 = some e.2 := by decide +kernel
theorem li_139_73 : il_139.lookup 73 = some (.iaload, 74) := by decide +kernel
theorem li_139_74 : il_139.lookup 74 = some (.iastore, 75) := by decide +kernel
theorem bo_139_75_1f1f88 : ∀ e ∈ ([(75, .aload_n 0, 76)] : List (Nat × Instr × Nat)), il_139.lookup e.1 = some e.2 := by decide +kernel
theorem li_139_76 : il_139.lookup 76 = some (.getfield 144, 79) := by decide +kernel
theorem bo_139_79_16ec63 : ∀ e ∈ ([(79, .iconst 4, 80), (80, .iload_n 2, 81), (81, .imul, 82), (82, .iload_n 3, 83), (83, .iadd, 84), (84, .aload_n 0, 85)] : List (Nat × Instr × Nat)), il_139.lookup e.1 = some e.2 := by decide +kernel
theorem li_139_85 : il_139.lookup 85 = some (.getfield 126, 88) := by decide +kernel
theorem bo_139_88_976b31 : ∀ e ∈ ([(88, .iconst 4, 89), (89, .iload_n 1, 90), (90, .imul, 91), (91, .iload_n 3, 92), (92, .iadd, 93)] : List (Nat × Instr × Nat)), il_139.lookup e.1 = some e.2 := by decide +kernel
theorem li_139_93 : il_139.lookup 93 = some (.iaload, 94) := by decide +kernel
theorem li_139_94 : il_139.lookup 94 = some (.iastore, 95) := by decide +kernel
theorem bo_139_95_2aa25d : ∀ e ∈ ([(95, .iinc 3 1, 98), (98, .goto (-73), 101)] : List (Nat × Instr × Nat)), il_139.lookup e.1 = some e.2 := by decide +kernel
theorem bo_139_0_5a4d31 : ∀ e ∈ ([(0, .iconst 4, 1), (1, .iload_n 1, 2), (2, .imul, 3), (3, .aload_n 0, 4)] : List (Nat × Instr × Nat)), il_139.lookup e.1 = some e.2 := by decide +kernel
theorem li_139_4 : il_139.lookup 4 = some (.getfield 129, 7) := by decide +kernel
theorem bo_139_7_9b264f : ∀ e ∈ ([(7, .iload_n 1, 8)] : List (Nat × Instr × Nat)), il_139.lookup e.1 = some e.2 := by decide +kernel
theorem li_139_8 : il_139.lookup 8 = some (.iaload, 9) := by decide +kernel
theorem bo_139_9_94b225 : ∀ e ∈ ([(9, .iadd, 10), (10, .istore_n 2, 11), (11, .aload_n 0, 12)] : List (Nat × Instr × Nat)), il_139.lookup e.1 = some e.2 := by decide +kernel
theorem li_139_12 : il_139.lookup 12 = some (.getfield 135, 15) := by decide +kernel
theorem bo_139_15_d45c32 : ∀ e ∈ ([(15, .iload_n 2, 16), (16, .aload_n 0, 17)] : List (Nat × Instr × Nat)), il_139.lookup e.1 = some e.2 := by decide +kernel
theorem li_139_17 : il_139.lookup 17 = some (.getfield 114, 20) := by decide +kernel
theorem bo_139_20_baa9a0 : ∀ e ∈ ([(20, .iload_n 1, 21)] : List (Nat × Instr × Nat)), il_139.lookup e.1 = some e.2 := by decide +kernel
theorem li_139_21 : il_139.lookup 21 = some (.iaload, 22) := by decide +kernel
theorem li_139_22 : il_139.lookup 22 = some (.iastore, 23) := by decide +kernel
theorem bo_139_23_31ad6f : ∀ e ∈ ([(23, .iconst 0, 24), (24, .istore_n 3, 25)] : List (Nat × Instr × Nat)), il_139.lookup e.1 = some e.2 := by decide +kernel
theorem bo_140_0_8d5162 : ∀ e ∈ ([(0, .aload_n 0, 1)] : List (Nat × Instr × Nat)), il_140.lookup e.1 = some e.2 := by decide +kernel
theorem li_140_1 : il_140.lookup 1 = some (.getfield 196, 4) := by decide +kernel
theorem bo_140_4_40e659 : ∀ e ∈ ([(4, .iconst 1, 5), (5, .iadd, 6)] : List (Nat × Instr × Nat)), il_140.lookup e.1 = some e.2 := by decide +kernel
theorem li_140_6 : il_140.lookup 6 = some (.ireturn, 7) := by decide +kernel
theorem bo_141_0_e5d6d4 : ∀ e ∈ ([(0, .iconst 3, 1), (1, .iload_n 0, 2), (2, .imul, 3), (3, .iload_n 1, 4), (4, .iadd, 5)] : List (Nat × Instr × Nat)), il_141.lookup e.1 = some e.2 := by decide +kernel
theorem li_141_5 : il_141.lookup 5 = some (.ireturn, 6) := by decide +kernel
theorem bo_142_0_8d5162 : ∀ e ∈ ([(0, .aload_n 0, 1)] : List (Nat × Instr × Nat)), il_142.lookup e.1 = some e.2 := by decide +kernel
theorem li_142_1 : il_142.lookup 1 = some (.getfield 13, 4) := by decide +kernel
theorem bo_142_4_e962e2 : ∀ e ∈ ([(4, .iload_n 1, 5)] : List (Nat × Instr × Nat)), il_142.lookup e.1 = some e.2 := by decide +kernel
theorem li_142_5 : il_142.lookup 5 = some (.iaload, 6) := by decide +kernel
theorem bo_142_6_907e54 : ∀ e ∈ ([(6, .iconst 4, 7)] : List (Nat × Instr × Nat)), il_142.lookup e.1 = some e.2 := by decide +kernel
theorem li_142_7 : il_142.lookup 7 = some (.if_icmp .eq 35, 10) := by decide +kernel
theorem bo_142_42_610feb : ∀ e ∈ ([(42, .iconst 1, 43), (43, .goto 4, 46)] : List (Nat × Instr × Nat)), il_142.lookup e.1 = some e.2 := by decide +kernel
theorem li_142_47 : il_142.lookup 47 = some (.ireturn, 48) := by decide +kernel
theorem bo_142_10_2a30f5 : ∀ e ∈ ([(10, .aload_n 0, 11)] : List (Nat × Instr × Nat)), il_142.lookup e.1 = some e.2 := by decide +kernel
theorem li_142_11 : il_142.lookup 11 = some (.getfield 13, 14) := by decide +kernel
theorem bo_142_14_3e81ce : ∀ e ∈ ([(14, .iload_n 1, 15)] : List (Nat × Instr × Nat)), il_142.lookup e.1 = some e.2 := by decide +kernel
theorem li_142_15 : il_142.lookup 15 = some (.iaload, 16) := by decide +kernel
theorem bo_142_16_862b1a : ∀ e ∈ ([(16, .iconst 5, 17)] : List (Nat × Instr × Nat)), il_142.lookup e.1 = some e.2 := by decide +kernel
theorem li_142_17 : il_142.lookup 17 = some (.if_icmp .eq 25, 20) := by decide +kernel
theorem bo_142_20_baa9a0 : ∀ e ∈ ([(20, .aload_n 0, 21)] : List (Nat × Instr × Nat)), il_142.lookup e.1 = some e.2 := by decide +kernel
theorem li_142_21 : il_142.lookup 21 = some (.getfield 13, 24) := by decide +kernel
theorem bo_142_24_99aa1d : ∀ e ∈ ([(24, .iload_n 1, 25)] : List (Nat × Instr × Nat)), il_142.lookup e.1 = some e.2 := by decide +kernel
theorem li_142_25 : il_142.lookup 25 = some (.iaload, 26) := by decide +kernel
theorem bo_142_26_bd3b31 : ∀ e ∈ ([(26, .bipush 6, 28)] : List (Nat × Instr × Nat)), il_142.lookup e.1 = some e.2 := by decide +kernel
theorem li_142_28 : il_142.lookup 28 = some (.if_icmp .eq 14, 31) := by decide +kernel
theorem bo_142_31_c379e3 : ∀ e ∈ ([(31, .aload_n 0, 32)] : List (Nat × Instr × Nat)), il_142.lookup e.1 = some e.2 := by decide +kernel
theorem li_142_32 : il_142.lookup 32 = some (.getfield 13, 35) := by decide +kernel
theorem bo_142_35_a976ef : ∀ e ∈ ([(35, .iload_n 1, 36)] : List (Nat × Instr × Nat)), il_142.lookup e.1 = some e.2 := by decide +kernel
theorem li_142_36 : il_142.lookup 36 = some (.iaload, 37) := by decide +kernel
theorem bo_142_37_a21c9f : ∀ e ∈ ([(37, .bipush 8, 39)] : List (Nat × Instr × Nat)), il_142.lookup e.1 = some e.2 := by decide +kernel
theorem li_142_39 : il_142.lookup 39 = some (.if_icmp .ne 7, 42) := by decide +kernel
theorem bo_142_46_4b02d4 : ∀ e ∈ ([(46, .iconst 0, 47)] : List (Nat × Instr × Nat)), il_142.lookup e.1 = some e.2 := by decide +kernel
theorem bo_143_0_264884 : ∀ e ∈ ([(0, .iload_n 2, 1), (1, .bipush 8, 3)] : List (Nat × Instr × Nat)), il_143.lookup e.1 = some e.2 := by decide +kernel
theorem li_143_3 : il_143.lookup 3 = some (.irem, 4) := by decide +kernel
theorem bo_143_4_e962e2 : ∀ e ∈ ([(4, .aload_n 0, 5)] : List (Nat × Instr × Nat)), il_143.lookup e.1 = some e.2 := by decide +kernel
theorem li_143_5 : il_143.lookup 5 = some (.getfield 22, 8) := by decide +kernel
theorem bo_143_8_383530 : ∀ e ∈ ([(8, .iload_n 1, 9)] : List (Nat × Instr × Nat)), il_143.lookup e.1 = some e.2 := by decide +kernel
theorem li_143_9 : il_143.lookup 9 = some (.iaload, 10) := by decide +kernel
theorem bo_143_10_42a704 : ∀ e ∈ ([(10, .imul, 11), (11, .bipush 8, 13)] : List (Nat × Instr × Nat)), il_143.lookup e.1 = some e.2 := by decide +kernel
theorem li_143_13 : il_143.lookup 13 = some (.idiv, 14) := by decide +kernel
theorem li_143_14 : il_143.lookup 14 = some (.ireturn, 15) := by decide +kernel
theorem bo_144_0_5a4d31 : ∀ e ∈ ([(0, .aload_n 0, 1), (1, .iload_n 1, 2), (2, .iconst 1, 3), (3, .iadd, 4)] : List (Nat × Instr × Nat)), il_144.lookup e.1 = some e.2 := by decide +kernel
theorem li_144_4 : il_144.lookup 4 = some (.invokevirtual 281, 7) := by decide +kernel
theorem li_144_7 : il_144.lookup 7 = some (.ifCond .eq 14, 10) := by decide +kernel
theorem bo_144_21_46c79c : ∀ e ∈ ([(21, .aload_n 0, 22)] : List (Nat × Instr × Nat)), il_144.lookup e.1 = some e.2 := by decide +kernel
theorem li_144_22 : il_144.lookup 22 = some (.getfield 84, 25) := by decide +kernel
theorem bo_144_25_6328ed : ∀ e ∈ ([(25, .iload_n 1, 26), (26, .iload_n 2, 27)] : List (Nat × Instr × Nat)), il_144.lookup e.1 = some e.2 := by decide +kernel
theorem li_144_27 : il_144.lookup 27 = some (.invokestatic 288, 30) := by decide +kernel
theorem li_144_30 : il_144.lookup 30 = some (.iaload, 31) := by decide +kernel
theorem bo_144_31_c379e3 : ∀ e ∈ ([(31, .aload_n 0, 32)] : List (Nat × Instr × Nat)), il_144.lookup e.1 = some e.2 := by decide +kernel
theorem li_144_32 : il_144.lookup 32 = some (.getfield 22, 35) := by decide +kernel
theorem bo_144_35_0ac55d : ∀ e ∈ ([(35, .iload_n 1, 36), (36, .iconst 1, 37), (37, .iadd, 38)] : List (Nat × Instr × Nat)), il_144.lookup e.1 = some e.2 := by decide +kernel
theorem li_144_38 : il_144.lookup 38 = some (.iaload, 39) := by decide +kernel
theorem li_144_39 : il_144.lookup 39 = some (.irem, 40) := by decide +kernel
theorem li_144_40 : il_144.lookup 40 = some (.ireturn, 41) := by decide +kernel
theorem bo_144_10_326e4c : ∀ e ∈ ([(10, .aload_n 0, 11), (11, .iload_n 1, 12), (12, .iconst 1, 13), (13, .iadd, 14), (14, .iload_n 3, 15)] : List (Nat × Instr × Nat)), il_144.lookup e.1 = some e.2 := by decide +kernel
theorem li_144_15 : il_144.lookup 15 = some (.invokevirtual 285, 18) := by decide +kernel
theorem bo_144_18_2b31d8 : ∀ e ∈ ([(18, .goto 22, 21)] : List (Nat × Instr × Nat)), il_144.lookup e.1 = some e.2 := by decide +kernel
theorem bo_145_0_cba814 : ∀ e ∈ ([(0, .iconst 3, 1), (1, .iconst 3, 2), (2, .iload_n 0, 3), (3, .imul, 4), (4, .iload_n 1, 5), (5, .iadd, 6), (6, .imul, 7), (7, .iload_n 2, 8), (8, .iadd, 9)] : List (Nat × Instr × Nat)), il_145.lookup e.1 = some e.2 := by decide +kernel
theorem li_145_9 : il_145.lookup 9 = some (.ireturn, 10) := by decide +kernel
theorem bo_146_0_8d5162 : ∀ e ∈ ([(0, .aload_n 0, 1)] : List (Nat × Instr × Nat)), il_146.lookup e.1 = some e.2 := by decide +kernel
theorem li_146_1 : il_146.lookup 1 = some (.getfield 114, 4) := by decide +kernel
theorem bo_146_4_e962e2 : ∀ e ∈ ([(4, .iload_n 1, 5)] : List (Nat × Instr × Nat)), il_146.lookup e.1 = some e.2 := by decide +kernel
theorem li_146_5 : il_146.lookup 5 = some (.iaload, 6) := by decide +kernel
theorem bo_146_6_907e54 : ∀ e ∈ ([(6, .aload_n 0, 7)] : List (Nat × Instr × Nat)), il_146.lookup e.1 = some e.2 := by decide +kernel
theorem li_146_7 : il_146.lookup 7 = some (.getfield 25, 10) := by decide +kernel
theorem li_146_10 : il_146.lookup 10 = some (.if_icmp .lt 16, 13) := by decide +kernel
theorem bo_146_26_539da0 : ∀ e ∈ ([(26, .iconst 1, 27), (27, .goto 4, 30)] : List (Nat × Instr × Nat)), il_146.lookup e.1 = some e.2 := by decide +kernel
theorem li_146_31 : il_146.lookup 31 = some (.ireturn, 32) := by decide +kernel
theorem bo_146_13_15f019 : ∀ e ∈ ([(13, .aload_n 0, 14)] : List (Nat × Instr × Nat)), il_146.lookup e.1 = some e.2 := by decide +kernel
theorem li_146_14 : il_146.lookup 14 = some (.getfield 129, 17) := by decide +kernel
theorem bo_146_17_509256 : ∀ e ∈ ([(17, .iload_n 1, 18)] : List (Nat × Instr × Nat)), il_146.lookup e.1 = some e.2 := by decide +kernel
theorem li_146_18 : il_146.lookup 18 = some (.iaload, 19) := by decide +kernel
theorem bo_146_19_1a8444 : ∀ e ∈ ([(19, .aload_n 0, 20)] : List (Nat × Instr × Nat)), il_146.lookup e.1 = some e.2 := by decide +kernel
theorem li_146_20 : il_146.lookup 20 = some (.getfield 32, 23) := by decide +kernel
theorem li_146_23 : il_146.lookup 23 = some (.if_icmp .ge 7, 26) := by decide +kernel
theorem bo_146_30_0b4e4a : ∀ e ∈ ([(30, .iconst 0, 31)] : List (Nat × Instr × Nat)), il_146.lookup e.1 = some e.2 := by decide +kernel
theorem bo_147_18_2b31d8 : ∀ e ∈ ([(18, .aload_n 0, 19)] : List (Nat × Instr × Nat)), il_147.lookup e.1 = some e.2 := by decide +kernel
theorem li_147_19 : il_147.lookup 19 = some (.getfield 120, 22) := by decide +kernel
theorem bo_147_22_569bed : ∀ e ∈ ([(22, .iconst 4, 23), (23, .iload_n 1, 24), (24, .imul, 25), (25, .aload_n 0, 26)] : List (Nat × Instr × Nat)), il_147.lookup e.1 = some e.2 := by decide +kernel
theorem li_147_26 : il_147.lookup 26 = some (.getfield 114, 29) := by decide +kernel
theorem bo_147_29_2d7a5f : ∀ e ∈ ([(29, .iload_n 1, 30)] : List (Nat × Instr × Nat)), il_147.lookup e.1 = some e.2 := by decide +kernel
theorem li_147_30 : il_147.lookup 30 = some (.iaload, 31) := by decide +kernel
theorem bo_147_31_f6932f : ∀ e ∈ ([(31, .iadd, 32), (32, .iload_n 2, 33)] : List (Nat × Instr × Nat)), il_147.lookup e.1 = some e.2 := by decide +kernel
theorem li_147_33 : il_147.lookup 33 = some (.iastore, 34) := by decide +kernel
theorem bo_147_34_130638 : ∀ e ∈ ([(34, .aload_n 0, 35)] : List (Nat × Instr × Nat)), il_147.lookup e.1 = some e.2 := by decide +kernel
theorem li_147_35 : il_147.lookup 35 = some (.getfield 123, 38) := by decide +kernel
theorem bo_147_38_883a8f : ∀ e ∈ ([(38, .iconst 4, 39), (39, .iload_n 1, 40), (40, .imul, 41), (41, .aload_n 0, 42)] : List (Nat × Instr × Nat)), il_147.lookup e.1 = some e.2 := by decide +kernel
theorem li_147_42 : il_147.lookup 42 = some (.getfield 114, 45) := by decide +kernel
theorem bo_147_45_8e29f2 : ∀ e ∈ ([(45, .iload_n 1, 46)] : List (Nat × Instr × Nat)), il_147.lookup e.1 = some e.2 := by decide +kernel
theorem li_147_46 : il_147.lookup 46 = some (.iaload, 47) := by decide +kernel
theorem bo_147_47_400428 : ∀ e ∈ ([(47, .iadd, 48), (48, .iload_n 3, 49)] : List (Nat × Instr × Nat)), il_147.lookup e.1 = some e.2 := by decide +kernel
theorem li_147_49 : il_147.lookup 49 = some (.iastore, 50) := by decide +kernel
theorem bo_147_50_8a8783 : ∀ e ∈ ([(50, .aload_n 0, 51)] : List (Nat × Instr × Nat)), il_147.lookup e.1 = some e.2 := by decide +kernel
theorem li_147_51 : il_147.lookup 51 = some (.getfield 126, 54) := by decide +kernel
theorem bo_147_54_1dd508 : ∀ e ∈ ([(54, .iconst 4, 55), (55, .iload_n 1, 56), (56, .imul, 57), (57, .aload_n 0, 58)] : List (Nat × Instr × Nat)), il_147.lookup e.1 = some e.2 := by decide +kernel
theorem li_147_58 : il_147.lookup 58 = some (.getfield 114, 61) := by decide +kernel
theorem bo_147_61_769b30 : ∀ e ∈ ([(61, .iload_n 1, 62)] : List (Nat × Instr × Nat)), il_147.lookup e.1 = some e.2 := by decide +kernel
theorem li_147_62 : il_147.lookup 62 = some (.iaload, 63) := by decide +kernel
theorem bo_147_63_92b333 : ∀ e ∈ ([(63, .iadd, 64), (64, .iload 4, 66)] : List (Nat × Instr × Nat)), il_147.lookup e.1 = some e.2 := by decide +kernel
theorem li_147_66 : il_147.lookup 66 = some (.iastore, 67) := by decide +kernel
theorem bo_147_67_ded3a4 : ∀ e ∈ ([(67, .aload_n 0, 68)] : List (Nat × Instr × Nat)), il_147.lookup e.1 = some e.2 := by decide +kernel
theorem li_147_68 : il_147.lookup 68 = some (.getfield 114, 71) := by decide +kernel
theorem bo_147_71_0bf829 : ∀ e ∈ ([(71, .iload_n 1, 72), (72, .dup2, 73)] : List (Nat × Instr × Nat)), il_147.lookup e.1 = some e.2 := by decide +kernel
theorem li_147_73 : il_147.lookup 73 = some (.iaload, 74) := by decide +kernel
theorem bo_147_74_f61e5a : ∀ e ∈ ([(74, .iconst 1, 75), (75, .iadd, 76)] : List (Nat × Instr × Nat)), il_147.lookup e.1 = some e.2 := by decide +kernel
theorem li_147_76 : il_147.lookup 76 = some (.iastore, 77) := by decide +kernel
theorem bo_147_77_9a98ff : ∀ e ∈ ([(77, .aload_n 0, 78)] : List (Nat × Instr × Nat)), il_147.lookup e.1 = some e.2 := by decide +kernel
theorem li_147_78 : il_147.lookup 78 = some (.getfield 114, 81) := by decide +kernel
theorem bo_147_81_6cfd26 : ∀ e ∈ ([(81, .iload_n 1, 82)] : List (Nat × Instr × Nat)), il_147.lookup e.1 = some e.2 := by decide +kernel
theorem li_147_82 : il_147.lookup 82 = some (.iaload, 83) := by decide +kernel
theorem bo_147_83_dbc641 : ∀ e ∈ ([(83, .aload_n 0, 84)] : List (Nat × Instr × Nat)), il_147.lookup e.1 = some e.2 := by decide +kernel
theorem li_147_84 : il_147.lookup 84 = some (.getfield 25, 87) := by decide +kernel
theorem li_147_87 : il_147.lookup 87 = some (.if_icmp .ne 21, 90) := by decide +kernel
theorem li_147_108 : il_147.lookup 108 = some (.return_, 109) := by decide +kernel
theorem bo_147_90_d3b5bf : ∀ e ∈ ([(90, .aload_n 0, 91)] : List (Nat × Instr × Nat)), il_147.lookup e.1 = some e.2 := by decide +kernel
theorem li_147_91 : il_147.lookup 91 = some (.getfield 129, 94) := by decide +kernel
theorem bo_147_94_6615ab : ∀ e ∈ ([(94, .iload_n 1, 95)] : List (Nat × Instr × Nat)), il_147.lookup e.1 = some e.2 := by decide +kernel
theorem li_147_95 : il_147.lookup 95 = some (.iaload, 96) := by decide +kernel
theorem bo_147_96_2375ef : ∀ e ∈ ([(96, .aload_n 0, 97)] : List (Nat × Instr × Nat)), il_147.lookup e.1 = some e.2 := by decide +kernel
theorem li_147_97 : il_147.lookup 97 = some (.getfield 32, 100) := by decide +kernel
theorem li_147_100 : il_147.lookup 100 = some (.if_icmp .ge 8, 103) := by decide +kernel
theorem bo_147_103_b58a7c : ∀ e ∈ ([(103, .aload_n 0, 104), (104, .iload_n 1, 105)] : List (Nat × Instr × Nat)), il_147.lookup e.1 = some e.2 := by decide +kernel
theorem li_147_105 : il_147.lookup 105 = some (.invokevirtual 278, 108) := by decide +kernel
theorem bo_147_0_8d5162 : ∀ e ∈ ([(0, .aload_n 0, 1)] : List (Nat × Instr × Nat)), il_147.lookup e.1 = some e.2 := by decide +kernel
theorem li_147_1 : il_147.lookup 1 = some (.getfield 114, 4) := by decide +kernel
theorem bo_147_4_e962e2 : ∀ e ∈ ([(4, .iload_n 1, 5)] : List (Nat × Instr × Nat)), il_147.lookup e.1 = some e.2 := by decide +kernel
theorem li_147_5 : il_147.lookup 5 = some (.iaload, 6) := by decide +kernel
theorem bo_147_6_907e54 : ∀ e ∈ ([(6, .aload_n 0, 7)] : List (Nat × Instr × Nat)), il_147.lookup e.1 = some e.2 := by decide +kernel
theorem li_147_7 : il_147.lookup 7 = some (.getfield 25, 10) := by decide +kernel
theorem li_147_10 : il_147.lookup 10 = some (.if_icmp .ne 8, 13) := by decide +kernel
theorem bo_147_13_1f05a9 : ∀ e ∈ ([(13, .aload_n 0, 14), (14, .iload_n 1, 15)] : List (Nat × Instr × Nat)), il_147.lookup e.1 = some e.2 := by decide +kernel
theorem li_147_15 : il_147.lookup 15 = some (.invokevirtual 278, 18) := by decide +kernel
theorem bo_148_20_aa2fda : ∀ e ∈ ([(20, .iadd, 21), (21, .aload_n 0, 22)] : List (Nat × Instr × Nat)), il_148.lookup e.1 = some e.2 := by decide +kernel
theorem li_148_22 : il_148.lookup 22 = some (.getfield 32, 25) := by decide +kernel
theorem li_148_25 : il_148.lookup 25 = some (.if_icmp .ge 7, 28) := by decide +kernel
theorem bo_148_32_191034 : ∀ e ∈ ([(32, .iconst 0, 33)] : List (Nat × Instr × Nat)), il_148.lookup e.1 = some e.2 := by decide +kernel
theorem li_148_33 : il_148.lookup 33 = some (.ireturn, 34) := by decide +kernel
theorem bo_148_28_533662 : ∀ e ∈ ([(28, .iconst 1, 29), (29, .goto 4, 32)] : List (Nat × Instr × Nat)), il_148.lookup e.1 = some e.2 := by decide +kernel
theorem bo_148_0_8d5162 : ∀ e ∈ ([(0, .aload_n 0, 1)] : List (Nat × Instr × Nat)), il_148.lookup e.1 = some e.2 := by decide +kernel
theorem li_148_1 : il_148.lookup 1 = some (.getfield 129, 4) := by decide +kernel
theorem bo_148_4_e962e2 : ∀ e ∈ ([(4, .iload_n 1, 5)] : List (Nat × Instr × Nat)), il_148.lookup e.1 = some e.2 := by decide +kernel
theorem li_148_5 : il_148.lookup 5 = some (.iaload, 6) := by decide +kernel
theorem bo_148_6_907e54 : ∀ e ∈ ([(6, .aload_n 0, 7)] : List (Nat × Instr × Nat)), il_148.lookup e.1 = some e.2 := by decide +kernel
theorem li_148_7 : il_148.lookup 7 = some (.getfield 114, 10) := by decide +kernel
theorem bo_148_10_2a30f5 : ∀ e ∈ ([(10, .iload_n 1, 11)] : List (Nat × Instr × Nat)), il_148.lookup e.1 = some e.2 := by decide +kernel
theorem li_148_11 : il_148.lookup 11 = some (.iaload, 12) := by decide +kernel
theorem li_148_12 : il_148.lookup 12 = some (.ifCond .le 7, 15) := by decide +kernel
theorem bo_148_19_1a8444 : ∀ e ∈ ([(19, .iconst 0, 20)] : List (Nat × Instr × Nat)), il_148.lookup e.1 = some e.2 := by decide +kernel
theorem bo_148_15_d45c32 : ∀ e ∈ ([(15, .iconst 1, 16), (16, .goto 4, 19)] : List (Nat × Instr × Nat)), il_148.lookup e.1 = some e.2 := by decide +kernel
theorem bo_149_2_d916f9 : ∀ e ∈ ([(2, .iload_n 3, 3), (3, .aload_n 0, 4)] : List (Nat × Instr × Nat)), il_149.lookup e.1 = some e.2 := by decide +kernel
theorem li_149_4 : il_149.lookup 4 = some (.getfield 22, 7) := by decide +kernel
theorem bo_149_7_6bece7 : ∀ e ∈ ([(7, .iload_n 1, 8), (8, .iconst 1, 9), (9, .iadd, 10)] : List (Nat × Instr × Nat)), il_149.lookup e.1 = some e.2 := by decide +kernel
theorem li_149_10 : il_149.lookup 10 = some (.iaload, 11) := by decide +kernel
theorem li_149_11 : il_149.lookup 11 = some (.if_icmp .ge 24, 14) := by decide +kernel
theorem bo_149_35_a976ef : ∀ e ∈ ([(35, .iconst (-1), 36)] : List (Nat × Instr × Nat)), il_149.lookup e.1 = some e.2 := by decide +kernel
theorem li_149_36 : il_149.lookup 36 = some (.ireturn, 37) := by decide +kernel
theorem bo_149_14_aedc60 : ∀ e ∈ ([(14, .aload_n 0, 15), (15, .iload_n 1, 16), (16, .iload_n 2, 17), (17, .iload_n 3, 18)] : List (Nat × Instr × Nat)), il_149.lookup e.1 = some e.2 := by decide +kernel
theorem li_149_18 : il_149.lookup 18 = some (.invokestatic 324, 21) := by decide +kernel
theorem li_149_21 : il_149.lookup 21 = some (.invokevirtual 341, 24) := by decide +kernel
theorem li_149_24 : il_149.lookup 24 = some (.ifCond .ne 5, 27) := by decide +kernel
theorem bo_149_29_ce94c9 : ∀ e ∈ ([(29, .iinc 3 1, 32), (32, .goto (-30), 35)] : List (Nat × Instr × Nat)), il_149.lookup e.1 = some e.2 := by decide +kernel
theorem bo_149_27_58fada : ∀ e ∈ ([(27, .iload_n 3, 28)] : List (Nat × Instr × Nat)), il_149.lookup e.1 = some e.2 := by decide +kernel
theorem li_149_28 : il_149.lookup 28 = some (.ireturn, 29) := by decide +kernel
theorem bo_149_0_264884 : ∀ e ∈ ([(0, .iconst 0, 1), (1, .istore_n 3, 2)] : List (Nat × Instr × Nat)), il_149.lookup e.1 = some e.2 := by decide +kernel
theorem e_ar_copyOf1 {d : Nat} (hd : 1 ≤ d) (p0 : Nat) (p1 : Int32) (M : Mem) (r : Option Nat × Mem) (h : f_ar_copyOf1 p0 p1 M = some r) : EV d 122 0 (entL 3 [.ref p0, .int p1]) [] M (some (rfv r.1), r.2) := by
  show EV d 122 0 [some (.ref p0), some (.int p1), none] [] M _
  unfold f_ar_copyOf1 at h
  refine EV_stq mx_122 (pc' := 2) (L' := [some (.ref p0), some (.int p1), none]) (st' := [.ref p0, .int p1]) bo_122_0_264884 rfl ?_
  refine r_aN mx_122 li_122_2 h (fun v1 h => ?_)
  refine h_ne h (fun h hc => ?_) (fun h hc => ?_)
  · refine r_icF mx_122 li_122_3 (by decide) hc ?_
    cases h
  · refine r_icT mx_122 li_122_3 (by decide) rfl hc ?_
    refine EV_stq mx_122 (pc' := 15) (L' := [some (.ref p0), some (.int p1), none]) (st' := [.int p1]) bo_122_14_3e81ce rfl ?_
    refine r_nA mx_122 li_122_15 (by decide) h (fun a2 M3 h => ?_)
    refine EV_stq mx_122 (pc' := 23) (L' := [some (.ref p0), some (.int p1), some (.ref a2)]) (st' := [.ref p0, .int (0 : Int32), .ref a2, .int (0 : Int32), .ref p0]) bo_122_17_9661cb rfl ?_
    refine r_aN mx_122 li_122_23 h (fun v4 h => ?_)
    refine EV_stq mx_122 (pc' := 25) (L' := [some (.ref p0), some (.int p1), some (.ref a2)]) (st' := [.int p1, .int v4, .int (0 : Int32), .ref a2, .int (0 : Int32), .ref p0]) bo_122_24_99aa1d rfl ?_
    refine h_cI h (fun v6 M5 e h => ?_)
    refine EV_call [.int v4, .int p1] [.int (0 : Int32), .ref a2, .int (0 : Int32), .ref p0] mx_122 li_122_25 rfl rfl si_17_304 rfl (by decide) (by decide) (by omega) ma_21 rfl (Nat.le_of_ble_eq_true rfl) rfl rfl (Nat.le_of_ble_eq_true rfl) rfl (e_ma_min (by omega) v4 p1 M3 _ e) ?_
    show EV d 122 28 [some (.ref p0), some (.int p1), some (.ref a2)] [.int v6, .int (0 : Int32), .ref a2, .int (0 : Int32), .ref p0] M5 _
    refine r_cp mx_122 li_122_28 si_17_150 rfl (by omega) (Nat.le_of_ble_eq_true rfl) h (fun M7 h => ?_)
    refine EV_stq mx_122 (pc' := 32) (L' := [some (.ref p0), some (.int p1), some (.ref a2)]) (st' := [.ref a2]) bo_122_31_c379e3 rfl ?_
    obtain rfl := Option.some.inj h
    exact r_ret mx_122 li_122_32 rfl rfl
theorem e_la_note_44 {d : Nat} (hd : 2 ≤ d) (l0 : Nat) (l1 : Int32) (l2 : Int32) (M : Mem) (r : Mem) (h : f_la_note_44 l0 l1 l2 M = some r) : EV d 123 44 [some (.ref l0), some (.int l1), some (.int l2)] [] M (none, r) := by
  unfold f_la_note_44 at h
  refine EV_stq mx_123 (pc' := 45) (L' := [some (.ref l0), some (.int l1), some (.int l2)]) (st' := [.ref l0]) bo_123_44_56c0aa rfl ?_
  refine r_gA mx_123 li_123_45 fd_5_7 rfl h (fun a1 h => ?_)
  refine EV_stq mx_123 (pc' := 50) (L' := [some (.ref l0), some (.int l1), some (.int l2)]) (st' := [.int l2, .ref a1, .int l2, .ref a1]) bo_123_48_3a676f rfl ?_
  refine r_aI mx_123 li_123_50 h (fun v2 h => ?_)
  refine EV_stq mx_123 (pc' := 53) (L' := [some (.ref l0), some (.int l1), some (.int l2)]) (st' := [.int (v2 + (1 : Int32)), .int l2, .ref a1]) bo_123_51_a39201 rfl ?_
  refine r_sI mx_123 li_123_53 h (fun M3 h => ?_)
  refine EV_stq mx_123 (pc' := 56) (L' := [some (.ref l0), some (.int l1), some (.int l2)]) (st' := [.ref l0, .ref l0]) bo_123_54_a3ab7c rfl ?_
  refine r_gI mx_123 li_123_56 fd_5_29 ⟨by decide, by decide⟩ h (fun v4 h => ?_)
  refine EV_stq mx_123 (pc' := 61) (L' := [some (.ref l0), some (.int l1), some (.int l2)]) (st' := [.int (v4 + (1 : Int32)), .ref l0]) bo_123_59_d0b94e rfl ?_
  refine r_pI mx_123 li_123_61 fd_5_29 (Or.inl rfl) rfl h (fun M5 h => ?_)
  refine EV_stq mx_123 (pc' := 66) (L' := [some (.ref l0), some (.int l1), some (.int l2)]) (st' := [.ref l0, .ref l0]) bo_123_64_23d05d rfl ?_
  refine r_gI mx_123 li_123_66 fd_5_33 ⟨by decide, by decide⟩ h (fun v6 h => ?_)
  refine EV_stq mx_123 (pc' := 71) (L' := [some (.ref l0), some (.int l1), some (.int l2)]) (st' := [.int (v6 + l1), .ref l0]) bo_123_69_1aaecf rfl ?_
  refine r_pI mx_123 li_123_71 fd_5_33 (Or.inl rfl) rfl h (fun M7 h => ?_)
  obtain rfl := Option.some.inj h
  exact r_ret mx_123 li_123_74 rfl rfl
theorem e_la_note {d : Nat} (hd : 2 ≤ d) (p0 : Nat) (p1 : Int32) (M : Mem) (r : Mem) (h : f_la_note p0 p1 M = some r) : EV d 123 0 (entL 3 [.ref p0, .int p1]) [] M (none, r) := by
  show EV d 123 0 [some (.ref p0), some (.int p1), none] [] M _
  unfold f_la_note at h
  refine EV_stq mx_123 (pc' := 4) (L' := [some (.ref p0), some (.int p1), none]) (st' := [.int (131071 : Int32), .int p1, .int (0 : Int32)]) bo_123_0_8b3750 rfl ?_
  refine h_cI h (fun v2 M1 e h => ?_)
  refine EV_call [.int p1, .int (131071 : Int32)] [.int (0 : Int32)] mx_123 li_123_4 rfl rfl si_5_14 rfl (by decide) (by decide) (by omega) ma_21 rfl (Nat.le_of_ble_eq_true rfl) rfl rfl (Nat.le_of_ble_eq_true rfl) rfl (e_ma_min (by omega) p1 (131071 : Int32) M _ e) ?_
  show EV d 123 7 [some (.ref p0), some (.int p1), none] [.int v2, .int (0 : Int32)] M1 _
  refine h_cI h (fun v4 M3 e h => ?_)
  refine EV_call [.int (0 : Int32), .int v2] [] mx_123 li_123_7 rfl rfl si_5_20 rfl (by decide) (by decide) (by omega) ma_18 rfl (Nat.le_of_ble_eq_true rfl) rfl rfl (Nat.le_of_ble_eq_true rfl) rfl (e_ma_max (by omega) (0 : Int32) v2 M1 _ e) ?_
  show EV d 123 10 [some (.ref p0), some (.int p1), none] [.int v4] M3 _
  refine EV_stq mx_123 (pc' := 13) (L' := [some (.ref p0), some (.int p1), some (.int v4)]) (st' := [.ref p0, .int v4]) bo_123_10_4b0123 rfl ?_
  refine r_gA mx_123 li_123_13 fd_5_7 rfl h (fun a5 h => ?_)
  refine r_aN mx_123 li_123_16 h (fun v6 h => ?_)
  refine h_lt h (fun h hc => ?_) (fun h hc => ?_)
  · refine r_icT mx_123 li_123_17 (by decide) rfl hc ?_
    exact e_la_note_44 hd p0 p1 v4 M3 r h
  · refine r_icF mx_123 li_123_17 (by decide) hc ?_
    refine EV_stq mx_123 (pc' := 22) (L' := [some (.ref p0), some (.int p1), some (.int v4)]) (st' := [.ref p0, .ref p0]) bo_123_20_aa2fda rfl ?_
    refine r_gA mx_123 li_123_22 fd_5_7 rfl h (fun a7 h => ?_)
    refine EV_stq mx_123 (pc' := 30) (L' := [some (.ref p0), some (.int p1), some (.int v4)]) (st' := [.ref p0, .int (2 : Int32), .int (v4 + (1 : Int32)), .ref a7, .ref p0]) bo_123_25_4c1db3 rfl ?_
    refine r_gA mx_123 li_123_30 fd_5_7 rfl h (fun a8 h => ?_)
    refine r_aN mx_123 li_123_33 h (fun v9 h => ?_)
    refine EV_stq mx_123 (pc' := 35) (L' := [some (.ref p0), some (.int p1), some (.int v4)]) (st' := [.int ((2 : Int32) * v9), .int (v4 + (1 : Int32)), .ref a7, .ref p0]) bo_123_34_130638 rfl ?_
    refine h_cI h (fun v11 M10 e h => ?_)
    refine EV_call [.int (v4 + (1 : Int32)), .int ((2 : Int32) * v9)] [.ref a7, .ref p0] mx_123 li_123_35 rfl rfl si_5_20 rfl (by decide) (by decide) (by omega) ma_18 rfl (Nat.le_of_ble_eq_true rfl) rfl rfl (Nat.le_of_ble_eq_true rfl) rfl (e_ma_max (by omega) (v4 + (1 : Int32)) ((2 : Int32) * v9) M3 _ e) ?_
    show EV d 123 38 [some (.ref p0), some (.int p1), some (.int v4)] [.int v11, .ref a7, .ref p0] M10 _
    refine h_cR h (fun o13 M12 e h => ?_)
    refine EV_call [.ref a7, .int v11] [.ref p0] mx_123 li_123_38 rfl rfl si_5_23 rfl (by decide) (by decide) (by omega) ma_122 rfl (Nat.le_of_ble_eq_true rfl) rfl rfl (Nat.le_of_ble_eq_true rfl) rfl (e_ar_copyOf1 (by omega) a7 v11 M10 _ e) ?_
    refine h_onR (G := fun o => EV d 123 41 [some (.ref p0), some (.int p1), some (.int v4)] [rfv o, .ref p0] M12 _) h (fun h => ?_) (fun a14 h => ?_)
    · cases h
    · refine r_pR mx_123 li_123_41 fd_5_7 (Or.inl rfl) rfl h (fun M16 h => ?_)
      exact e_la_note_44 hd p0 p1 v4 M16 r h
theorem e_op_passes {d : Nat} (hd : 0 ≤ d) (p0 : Nat) (p1 : Int32) (M : Mem) (r : Int32 × Mem) (h : f_op_passes p0 p1 M = some r) : EV d 124 0 (entL 2 [.ref p0, .int p1]) [] M (some (.int r.1), r.2) := by
  show EV d 124 0 [some (.ref p0), some (.int p1)] [] M _
  unfold f_op_passes at h
  refine EV_stq mx_124 (pc' := 1) (L' := [some (.ref p0), some (.int p1)]) (st' := [.ref p0]) bo_124_0_8d5162 rfl ?_
  refine r_gI mx_124 li_124_1 fd_8_51 ⟨by decide, by decide⟩ h (fun v1 h => ?_)
  refine h_ne h (fun h hc => ?_) (fun h hc => ?_)
  · refine r_ifF mx_124 li_124_4 (by decide) hc ?_
    refine EV_stq mx_124 (pc' := 9) (L' := [some (.ref p0), some (.int p1)]) (st' := [.ref p0, .int p1]) bo_124_7_7eef78 rfl ?_
    refine r_gI mx_124 li_124_9 fd_8_54 ⟨by decide, by decide⟩ h (fun v5 h => ?_)
    refine h_ge h (fun h hc => ?_) (fun h hc => ?_)
    · refine r_icT mx_124 li_124_12 (by decide) rfl hc ?_
      refine EV_stq mx_124 (pc' := 20) (L' := [some (.ref p0), some (.int p1)]) (st' := [.int (0 : Int32)]) bo_124_19_1a8444 rfl ?_
      obtain rfl := Option.some.inj h
      exact r_ret mx_124 li_124_20 rfl (ro_nar (t := .boolean) (by decide) rfl)
    · refine r_icF mx_124 li_124_12 (by decide) hc ?_
      refine EV_stq mx_124 (pc' := 20) (L' := [some (.ref p0), some (.int p1)]) (st' := [.int (1 : Int32)]) bo_124_15_d45c32 rfl ?_
      obtain rfl := Option.some.inj h
      exact r_ret mx_124 li_124_20 rfl (ro_nar (t := .boolean) (by decide) rfl)
  · refine r_ifT mx_124 li_124_4 (by decide) rfl hc ?_
    refine EV_stq mx_124 (pc' := 22) (L' := [some (.ref p0), some (.int p1)]) (st' := [.ref p0]) bo_124_21_46c79c rfl ?_
    refine r_gI mx_124 li_124_22 fd_8_51 ⟨by decide, by decide⟩ h (fun v2 h => ?_)
    refine EV_stq mx_124 (pc' := 26) (L' := [some (.ref p0), some (.int p1)]) (st' := [.int (1 : Int32), .int v2]) bo_124_25_1858f6 rfl ?_
    refine h_ne h (fun h hc => ?_) (fun h hc => ?_)
    · refine r_icF mx_124 li_124_26 (by decide) hc ?_
      refine EV_stq mx_124 (pc' := 31) (L' := [some (.ref p0), some (.int p1)]) (st' := [.ref p0, .int p1]) bo_124_29_2746c1 rfl ?_
      refine r_gI mx_124 li_124_31 fd_8_54 ⟨by decide, by decide⟩ h (fun v4 h => ?_)
      refine h_ne h (fun h hc => ?_) (fun h hc => ?_)
      · refine r_icF mx_124 li_124_34 (by decide) hc ?_
        refine EV_stq mx_124 (pc' := 58) (L' := [some (.ref p0), some (.int p1)]) (st' := [.int (1 : Int32)]) bo_124_37_b7e9cc rfl ?_
        obtain rfl := Option.some.inj h
        exact r_ret mx_124 li_124_58 rfl (ro_nar (t := .boolean) (by decide) rfl)
      · refine r_icT mx_124 li_124_34 (by decide) rfl hc ?_
        refine EV_stq mx_124 (pc' := 58) (L' := [some (.ref p0), some (.int p1)]) (st' := [.int (0 : Int32)]) bo_124_41_4c2c9e rfl ?_
        obtain rfl := Option.some.inj h
        exact r_ret mx_124 li_124_58 rfl (ro_nar (t := .boolean) (by decide) rfl)
    · refine r_icT mx_124 li_124_26 (by decide) rfl hc ?_
      refine EV_stq mx_124 (pc' := 47) (L' := [some (.ref p0), some (.int p1)]) (st' := [.ref p0, .int p1]) bo_124_45_b7d017 rfl ?_
      refine r_gI mx_124 li_124_47 fd_8_54 ⟨by decide, by decide⟩ h (fun v3 h => ?_)
      refine h_le h (fun h hc => ?_) (fun h hc => ?_)
      · refine r_icT mx_124 li_124_50 (by decide) rfl hc ?_
        refine EV_stq mx_124 (pc' := 58) (L' := [some (.ref p0), some (.int p1)]) (st' := [.int (0 : Int32)]) bo_124_57_a9d9a3 rfl ?_
        obtain rfl := Option.some.inj h
        exact r_ret mx_124 li_124_58 rfl (ro_nar (t := .boolean) (by decide) rfl)
      · refine r_icF mx_124 li_124_50 (by decide) hc ?_
        refine EV_stq mx_124 (pc' := 58) (L' := [some (.ref p0), some (.int p1)]) (st' := [.int (1 : Int32)]) bo_124_53_2770e1 rfl ?_
        obtain rfl := Option.some.inj h
        exact r_ret mx_124 li_124_58 rfl (ro_nar (t := .boolean) (by decide) rfl)
theorem e_ky_firstOf {d : Nat} (hd : 0 ≤ d) (p0 : Nat) (p1 : Int32) (M : Mem) (r : Int32 × Mem) (h : f_ky_firstOf p0 p1 M = some r) : EV d 125 0 (entL 2 [.ref p0, .int p1]) [] M (some (.int r.1), r.2) := by
  show EV d 125 0 [some (.ref p0), some (.int p1)] [] M _
  unfold f_ky_firstOf at h
  refine EV_stq mx_125 (pc' := 1) (L' := [some (.ref p0), some (.int p1)]) (st' := [.ref p0]) bo_125_0_8d5162 rfl ?_
  refine r_gA mx_125 li_125_1 fd_6_9 rfl h (fun a1 h => ?_)
  refine EV_stq mx_125 (pc' := 8) (L' := [some (.ref p0), some (.int p1)]) (st' := [.int (p1 &&& (15 : Int32)), .ref a1]) bo_125_4_a77b4c rfl ?_
  refine r_aI mx_125 li_125_8 h (fun v2 h => ?_)
  obtain rfl := Option.some.inj h
  exact r_ret mx_125 li_125_9 rfl ro_int
theorem e_ky_secondOf {d : Nat} (hd : 0 ≤ d) (p0 : Nat) (p1 : Int32) (M : Mem) (r : Int32 × Mem) (h : f_ky_secondOf p0 p1 M = some r) : EV d 126 0 (entL 2 [.ref p0, .int p1]) [] M (some (.int r.1), r.2) := by
  show EV d 126 0 [some (.ref p0), some (.int p1)] [] M _
  unfold f_ky_secondOf at h
  refine EV_stq mx_126 (pc' := 1) (L' := [some (.ref p0), some (.int p1)]) (st' := [.ref p0]) bo_126_0_8d5162 rfl ?_
  refine r_gA mx_126 li_126_1 fd_6_15 rfl h (fun a1 h => ?_)
  refine EV_stq mx_126 (pc' := 8) (L' := [some (.ref p0), some (.int p1)]) (st' := [.int (p1 &&& (15 : Int32)), .ref a1]) bo_126_4_a77b4c rfl ?_
  refine r_aI mx_126 li_126_8 h (fun v2 h => ?_)
  obtain rfl := Option.some.inj h
  exact r_ret mx_126 li_126_9 rfl ro_int
theorem e_ky_remove {d : Nat} (hd : 0 ≤ d) (p0 : Nat) (p1 : Int32) (M : Mem) (r : Mem) (h : f_ky_remove p0 p1 M = some r) : EV d 127 0 (entL 2 [.ref p0, .int p1]) [] M (none, r) := by
  show EV d 127 0 [some (.ref p0), some (.int p1)] [] M _
  unfold f_ky_remove at h
  refine EV_stq mx_127 (pc' := 1) (L' := [some (.ref p0), some (.int p1)]) (st' := [.ref p0]) bo_127_0_8d5162 rfl ?_
  refine r_gA mx_127 li_127_1 fd_6_9 rfl h (fun a1 h => ?_)
  refine EV_stq mx_127 (pc' := 9) (L' := [some (.ref p0), some (.int p1)]) (st' := [.int (0 : Int32), .int (p1 &&& (15 : Int32)), .ref a1]) bo_127_4_64195e rfl ?_
  refine r_sI mx_127 li_127_9 h (fun M2 h => ?_)
  refine EV_stq mx_127 (pc' := 11) (L' := [some (.ref p0), some (.int p1)]) (st' := [.ref p0]) bo_127_10_2a30f5 rfl ?_
  refine r_gA mx_127 li_127_11 fd_6_15 rfl h (fun a3 h => ?_)
  refine EV_stq mx_127 (pc' := 19) (L' := [some (.ref p0), some (.int p1)]) (st' := [.int (0 : Int32), .int (p1 &&& (15 : Int32)), .ref a3]) bo_127_14_4d1cdc rfl ?_
  refine r_sI mx_127 li_127_19 h (fun M4 h => ?_)
  refine EV_stq mx_127 (pc' := 22) (L' := [some (.ref p0), some (.int p1)]) (st' := [.ref p0, .ref p0]) bo_127_20_aa2fda rfl ?_
  refine r_gI mx_127 li_127_22 fd_6_18 ⟨by decide, by decide⟩ h (fun v5 h => ?_)
  refine EV_stq mx_127 (pc' := 34) (L' := [some (.ref p0), some (.int p1)]) (st' := [.int (v5 &&& (((1 : Int32) <<< ((p1 &&& (15 : Int32)) &&& 31)) ^^^ (-1 : Int32))), .ref p0]) bo_127_25_fb885d rfl ?_
  refine r_pI mx_127 li_127_34 fd_6_18 (Or.inl rfl) rfl h (fun M6 h => ?_)
  obtain rfl := Option.some.inj h
  exact r_ret mx_127 li_127_37 rfl rfl
theorem e_ky_put {d : Nat} (hd : 0 ≤ d) (p0 : Nat) (p1 : Int32) (p2 : Int32) (p3 : Int32) (M : Mem) (r : Mem) (h : f_ky_put p0 p1 p2 p3 M = some r) : EV d 128 0 (entL 4 [.ref p0, .int p1, .int p2, .int p3]) [] M (none, r) := by
  show EV d 128 0 [some (.ref p0), some (.int p1), some (.int p2), some (.int p3)] [] M _
  unfold f_ky_put at h
  refine EV_stq mx_128 (pc' := 1) (L' := [some (.ref p0), some (.int p1), some (.int p2), some (.int p3)]) (st' := [.ref p0]) bo_128_0_8d5162 rfl ?_
  refine r_gA mx_128 li_128_1 fd_6_9 rfl h (fun a1 h => ?_)
  refine EV_stq mx_128 (pc' := 9) (L' := [some (.ref p0), some (.int p1), some (.int p2), some (.int p3)]) (st' := [.int p2, .int (p1 &&& (15 : Int32)), .ref a1]) bo_128_4_64195e rfl ?_
  refine r_sI mx_128 li_128_9 h (fun M2 h => ?_)
  refine EV_stq mx_128 (pc' := 11) (L' := [some (.ref p0), some (.int p1), some (.int p2), some (.int p3)]) (st' := [.ref p0]) bo_128_10_2a30f5 rfl ?_
  refine r_gA mx_128 li_128_11 fd_6_15 rfl h (fun a3 h => ?_)
  refine EV_stq mx_128 (pc' := 19) (L' := [some (.ref p0), some (.int p1), some (.int p2), some (.int p3)]) (st' := [.int p3, .int (p1 &&& (15 : Int32)), .ref a3]) bo_128_14_4d1cdc rfl ?_
  refine r_sI mx_128 li_128_19 h (fun M4 h => ?_)
  refine EV_stq mx_128 (pc' := 22) (L' := [some (.ref p0), some (.int p1), some (.int p2), some (.int p3)]) (st' := [.ref p0, .ref p0]) bo_128_20_aa2fda rfl ?_
  refine r_gI mx_128 li_128_22 fd_6_18 ⟨by decide, by decide⟩ h (fun v5 h => ?_)
  refine EV_stq mx_128 (pc' := 32) (L' := [some (.ref p0), some (.int p1), some (.int p2), some (.int p3)]) (st' := [.int (v5 ||| ((1 : Int32) <<< ((p1 &&& (15 : Int32)) &&& 31))), .ref p0]) bo_128_25_37d1a3 rfl ?_
  refine r_pI mx_128 li_128_32 fd_6_18 (Or.inl rfl) rfl h (fun M6 h => ?_)
  obtain rfl := Option.some.inj h
  exact r_ret mx_128 li_128_35 rfl rfl
theorem e_op_addToSum {d : Nat} (hd : 1 ≤ d) (p0 : Nat) (p1 : Nat) (p2 : Int32) (p3 : Int32) (p4 : Int32) (p5 : Nat) (M : Mem) (r : Mem) (h : f_op_addToSum p0 p1 p2 p3 p4 p5 M = some r) : EV d 129 0 (entL 8 [.ref p0, .ref p1, .int p2, .int p3, .int p4, .ref p5]) [] M (none, r) := by
  show EV d 129 0 [some (.ref p0), some (.ref p1), some (.int p2), some (.int p3), some (.int p4), some (.ref p5), none, none] [] M _
  unfold f_op_addToSum at h
  refine EV_stq mx_129 (pc' := 2) (L' := [some (.ref p0), some (.ref p1), some (.int p2), some (.int p3), some (.int p4), some (.ref p5), none, none]) (st' := [.int p2, .ref p1]) bo_129_0_264884 rfl ?_
  refine h_ck h (fun hc h => ?_)
  refine h_cI h (fun v2 M1 e h => ?_)
  refine EV_call [.ref p1, .int p2] [] mx_129 li_129_2 rfl rfl si_8_120 rfl (by decide) (by decide) (by omega) ma_125 rfl (Nat.le_of_ble_eq_true rfl) rfl rfl (Nat.le_of_ble_eq_true rfl) (rc_1 mt_at_125 rfl rfl (by decide) hc) (e_ky_firstOf (by omega) p1 p2 M _ e) ?_
  show EV d 129 5 [some (.ref p0), some (.ref p1), some (.int p2), some (.int p3), some (.int p4), some (.ref p5), none, none] [.int v2] M1 _
  refine EV_stq mx_129 (pc' := 11) (L' := [some (.ref p0), some (.ref p1), some (.int p2), some (.int p3), some (.int p4), some (.ref p5), some (.int (v2 + p3)), none]) (st' := [.int p2, .ref p1]) bo_129_5_f1be6a rfl ?_
  refine h_ck h (fun hc h => ?_)
  refine h_cI h (fun v4 M3 e h => ?_)
  refine EV_call [.ref p1, .int p2] [] mx_129 li_129_11 rfl rfl si_8_127 rfl (by decide) (by decide) (by omega) ma_126 rfl (Nat.le_of_ble_eq_true rfl) rfl rfl (Nat.le_of_ble_eq_true rfl) (rc_1 mt_at_126 rfl rfl (by decide) hc) (e_ky_secondOf (by omega) p1 p2 M1 _ e) ?_
  show EV d 129 14 [some (.ref p0), some (.ref p1), some (.int p2), some (.int p3), some (.int p4), some (.ref p5), some (.int (v2 + p3)), none] [.int v4] M3 _
  refine EV_stq mx_129 (pc' := 21) (L' := [some (.ref p0), some (.ref p1), some (.int p2), some (.int p3), some (.int p4), some (.ref p5), some (.int (v2 + p3)), some (.int (v4 + (1 : Int32)))]) (st' := [.ref p0, .int (v4 + (1 : Int32))]) bo_129_14_0fd01d rfl ?_
  refine r_gI mx_129 li_129_21 fd_8_51 ⟨by decide, by decide⟩ h (fun v5 h => ?_)
  refine h_ne h (fun h hc => ?_) (fun h hc => ?_)
  · refine r_icF mx_129 li_129_24 (by decide) hc ?_
    refine EV_stq mx_129 (pc' := 34) (L' := [some (.ref p0), some (.ref p1), some (.int p2), some (.int p3), some (.int p4), some (.ref p5), some (.int (v2 + p3)), some (.int (v4 + (1 : Int32)))]) (st' := [.int p4, .int (v2 + p3), .int p2, .ref p5]) bo_129_27_9f8789 rfl ?_
    refine h_ck h (fun hc h => ?_)
    refine h_cV h (fun M7 e h => ?_)
    refine EV_call [.ref p5, .int p2, .int (v2 + p3), .int p4] [] mx_129 li_129_34 rfl rfl si_8_104 rfl (by decide) (by decide) (by omega) ma_86 rfl (Nat.le_of_ble_eq_true rfl) rfl rfl (Nat.le_of_ble_eq_true rfl) (rc_1 mt_at_86 rfl rfl (by decide) hc) (e_rc_add (by omega) p5 p2 (v2 + p3) p4 M3 _ e) ?_
    show EV d 129 37 [some (.ref p0), some (.ref p1), some (.int p2), some (.int p3), some (.int p4), some (.ref p5), some (.int (v2 + p3)), some (.int (v4 + (1 : Int32)))] [] M7 _
    refine EV_stq mx_129 (pc' := 39) (L' := [some (.ref p0), some (.ref p1), some (.int p2), some (.int p3), some (.int p4), some (.ref p5), some (.int (v2 + p3)), some (.int (v4 + (1 : Int32)))]) (st' := [.int p2, .ref p1]) bo_129_37_b7e9cc rfl ?_
    refine h_ck h (fun hc h => ?_)
    refine h_cV h (fun M8 e h => ?_)
    refine EV_call [.ref p1, .int p2] [] mx_129 li_129_39 rfl rfl si_8_130 rfl (by decide) (by decide) (by omega) ma_127 rfl (Nat.le_of_ble_eq_true rfl) rfl rfl (Nat.le_of_ble_eq_true rfl) (rc_1 mt_at_127 rfl rfl (by decide) hc) (e_ky_remove (by omega) p1 p2 M7 _ e) ?_
    show EV d 129 42 [some (.ref p0), some (.ref p1), some (.int p2), some (.int p3), some (.int p4), some (.ref p5), some (.int (v2 + p3)), some (.int (v4 + (1 : Int32)))] [] M8 _
    refine EV_stq mx_129 (pc' := 54) (L' := [some (.ref p0), some (.ref p1), some (.int p2), some (.int p3), some (.int p4), some (.ref p5), some (.int (v2 + p3)), some (.int (v4 + (1 : Int32)))]) (st' := []) bo_129_42_b358e7 rfl ?_
    obtain rfl := Option.some.inj h
    exact r_ret mx_129 li_129_54 rfl rfl
  · refine r_icT mx_129 li_129_24 (by decide) rfl hc ?_
    refine EV_stq mx_129 (pc' := 51) (L' := [some (.ref p0), some (.ref p1), some (.int p2), some (.int p3), some (.int p4), some (.ref p5), some (.int (v2 + p3)), some (.int (v4 + (1 : Int32)))]) (st' := [.int (v4 + (1 : Int32)), .int (v2 + p3), .int p2, .ref p1]) bo_129_45_1cc20a rfl ?_
    refine h_ck h (fun hc h => ?_)
    refine h_cV h (fun M6 e h => ?_)
    refine EV_call [.ref p1, .int p2, .int (v2 + p3), .int (v4 + (1 : Int32))] [] mx_129 li_129_51 rfl rfl si_8_124 rfl (by decide) (by decide) (by omega) ma_128 rfl (Nat.le_of_ble_eq_true rfl) rfl rfl (Nat.le_of_ble_eq_true rfl) (rc_1 mt_at_128 rfl rfl (by decide) hc) (e_ky_put (by omega) p1 p2 (v2 + p3) (v4 + (1 : Int32)) M3 _ e) ?_
    show EV d 129 54 [some (.ref p0), some (.ref p1), some (.int p2), some (.int p3), some (.int p4), some (.ref p5), some (.int (v2 + p3)), some (.int (v4 + (1 : Int32)))] [] M6 _
    obtain rfl := Option.some.inj h
    exact r_ret mx_129 li_129_54 rfl rfl
theorem e_ky_has {d : Nat} (hd : 0 ≤ d) (p0 : Nat) (p1 : Int32) (M : Mem) (r : Int32 × Mem) (h : f_ky_has p0 p1 M = some r) : EV d 130 0 (entL 2 [.ref p0, .int p1]) [] M (some (.int r.1), r.2) := by
  show EV d 130 0 [some (.ref p0), some (.int p1)] [] M _
  unfold f_ky_has at h
  refine EV_stq mx_130 (pc' := 1) (L' := [some (.ref p0), some (.int p1)]) (st' := [.ref p0]) bo_130_0_8d5162 rfl ?_
  refine r_gI mx_130 li_130_1 fd_6_18 ⟨by decide, by decide⟩ h (fun v1 h => ?_)
  refine EV_stq mx_130 (pc' := 11) (L' := [some (.ref p0), some (.int p1)]) (st' := [.int ((v1 >>> ((p1 &&& (15 : Int32)) &&& 31)) &&& (1 : Int32))]) bo_130_4_f160ce rfl ?_
  refine h_eq h (fun h hc => ?_) (fun h hc => ?_)
  · refine r_ifT mx_130 li_130_11 (by decide) rfl hc ?_
    refine EV_stq mx_130 (pc' := 19) (L' := [some (.ref p0), some (.int p1)]) (st' := [.int (0 : Int32)]) bo_130_18_2b31d8 rfl ?_
    obtain rfl := Option.some.inj h
    exact r_ret mx_130 li_130_19 rfl (ro_nar (t := .boolean) (by decide) rfl)
  · refine r_ifF mx_130 li_130_11 (by decide) hc ?_
    refine EV_stq mx_130 (pc' := 19) (L' := [some (.ref p0), some (.int p1)]) (st' := [.int (1 : Int32)]) bo_130_14_4d7356 rfl ?_
    obtain rfl := Option.some.inj h
    exact r_ret mx_130 li_130_19 rfl (ro_nar (t := .boolean) (by decide) rfl)
theorem e_op_handle_128 {d : Nat} (hd : 2 ≤ d) : ∀ (n : Nat) (l0 : Nat) (l2 : Int32) (l3 : Int32) (l4 : Int32) (l5 : Nat) (l6 : Int32) (M : Mem) (r : Mem), f_op_handle_128 n l0 l2 l3 l4 l5 l6 M = some r → EV d 131 128 [some (.ref l0), none, some (.int l2), some (.int l3), some (.int l4), some (.ref l5), some (.int l6)] [] M (none, r) := by
  intro n
  induction n with
  | zero => intro l0 l2 l3 l4 l5 l6 M r h; cases h
  | succ n ih =>
    intro l0 l2 l3 l4 l5 l6 M r h
    unfold f_op_handle_128 at h
    refine EV_stq mx_131 (pc' := 131) (L' := [some (.ref l0), none, some (.int l2), some (.int l3), some (.int l4), some (.ref l5), some (.int l6)]) (st' := [.ref l0, .int l6]) bo_131_128_27e958 rfl ?_
    refine r_gI mx_131 li_131_131 fd_8_51 ⟨by decide, by decide⟩ h (fun v1 h => ?_)
    refine h_ge h (fun h hc => ?_) (fun h hc => ?_)
    · refine r_icT mx_131 li_131_134 (by decide) rfl hc ?_
      refine EV_stq mx_131 (pc' := 266) (L' := [some (.ref l0), none, some (.int l2), some (.int l3), some (.int l4), some (.ref l5), some (.int l6)]) (st' := []) bo_131_155_2973a9 rfl ?_
      obtain rfl := Option.some.inj h
      exact r_ret mx_131 li_131_266 rfl rfl
    · refine r_icF mx_131 li_131_134 (by decide) hc ?_
      refine EV_stq mx_131 (pc' := 146) (L' := [some (.ref l0), none, some (.int l2), some (.int l3), some (.int l4), some (.ref l5), some (.int l6)]) (st' := [.int l4, .int (l3 + l6), .int l2, .ref l5]) bo_131_137_e51b90 rfl ?_
      refine h_ck h (fun hc h => ?_)
      refine h_cV h (fun M2 e h => ?_)
      refine EV_call [.ref l5, .int l2, .int (l3 + l6), .int l4] [] mx_131 li_131_146 rfl rfl si_8_104 rfl (by decide) (by decide) (by omega) ma_86 rfl (Nat.le_of_ble_eq_true rfl) rfl rfl (Nat.le_of_ble_eq_true rfl) (rc_1 mt_at_86 rfl rfl (by decide) hc) (e_rc_add (by omega) l5 l2 (l3 + l6) l4 M _ e) ?_
      show EV d 131 149 [some (.ref l0), none, some (.int l2), some (.int l3), some (.int l4), some (.ref l5), some (.int l6)] [] M2 _
      refine EV_stq mx_131 (pc' := 128) (L' := [some (.ref l0), none, some (.int l2), some (.int l3), some (.int l4), some (.ref l5), some (.int (l6 + (1 : Int32)))]) (st' := []) bo_131_149_33805e rfl ?_
      exact ih l0 l2 l3 l4 l5 (l6 + (1 : Int32)) M2 r h
theorem e_op_handle_198 {d : Nat} (hd : 2 ≤ d) (l1 : Nat) (l2 : Int32) (l3 : Int32) (M : Mem) (r : Mem) (h : f_op_handle_198 l1 l2 l3 M = some r) : EV d 131 198 [none, some (.ref l1), some (.int l2), some (.int l3), none, none, none] [] M (none, r) := by
  unfold f_op_handle_198 at h
  refine EV_stq mx_131 (pc' := 202) (L' := [none, some (.ref l1), some (.int l2), some (.int l3), none, none, none]) (st' := [.int (0 : Int32), .int l3, .int l2, .ref l1]) bo_131_198_f47352 rfl ?_
  refine h_ck h (fun hc h => ?_)
  refine h_cV h (fun M1 e h => ?_)
  refine EV_call [.ref l1, .int l2, .int l3, .int (0 : Int32)] [] mx_131 li_131_202 rfl rfl si_8_124 rfl (by decide) (by decide) (by omega) ma_128 rfl (Nat.le_of_ble_eq_true rfl) rfl rfl (Nat.le_of_ble_eq_true rfl) (rc_1 mt_at_128 rfl rfl (by decide) hc) (e_ky_put (by omega) l1 l2 l3 (0 : Int32) M _ e) ?_
  show EV d 131 205 [none, some (.ref l1), some (.int l2), some (.int l3), none, none, none] [] M1 _
  refine EV_stq mx_131 (pc' := 266) (L' := [none, some (.ref l1), some (.int l2), some (.int l3), none, none, none]) (st' := []) bo_131_205_65b258 rfl ?_
  obtain rfl := Option.some.inj h
  exact r_ret mx_131 li_131_266 rfl rfl
theorem e_op_handle_189 {d : Nat} (hd : 2 ≤ d) (l1 : Nat) (l2 : Int32) (l3 : Int32) (l4 : Int32) (l5 : Nat) (M : Mem) (r : Mem) (h : f_op_handle_189 l1 l2 l3 l4 l5 M = some r) : EV d 131 189 [none, some (.ref l1), some (.int l2), some (.int l3), some (.int l4), some (.ref l5), none] [] M (none, r) := by
  unfold f_op_handle_189 at h
  refine EV_stq mx_131 (pc' := 195) (L' := [none, some (.ref l1), some (.int l2), some (.int l3), some (.int l4), some (.ref l5), none]) (st' := [.int l4, .int l3, .int l2, .ref l5]) bo_131_189_8d2b6c rfl ?_
  refine h_ck h (fun hc h => ?_)
  refine h_cV h (fun M1 e h => ?_)
  refine EV_call [.ref l5, .int l2, .int l3, .int l4] [] mx_131 li_131_195 rfl rfl si_8_104 rfl (by decide) (by decide) (by omega) ma_86 rfl (Nat.le_of_ble_eq_true rfl) rfl rfl (Nat.le_of_ble_eq_true rfl) (rc_1 mt_at_86 rfl rfl (by decide) hc) (e_rc_add (by omega) l5 l2 l3 l4 M _ e) ?_
  show EV d 131 198 [none, some (.ref l1), some (.int l2), some (.int l3), some (.int l4), some (.ref l5), none] [] M1 _
  refine EV_forget (A := [none, some (.ref l1), some (.int l2), some (.int l3), none, none, none]) (lsub_of _ _ ⟨Or.inl rfl, ⟨Or.inr rfl, ⟨Or.inr rfl, ⟨Or.inr rfl, ⟨Or.inl rfl, ⟨Or.inl rfl, ⟨Or.inl rfl, trivial⟩⟩⟩⟩⟩⟩⟩) ?_
  exact e_op_handle_198 hd l1 l2 l3 M1 r h
theorem e_op_handle_225 {d : Nat} (hd : 2 ≤ d) (l1 : Nat) (l2 : Int32) (l3 : Int32) (l4 : Int32) (l5 : Nat) (M : Mem) (r : Mem) (h : f_op_handle_225 l1 l2 l3 l4 l5 M = some r) : EV d 131 225 [none, some (.ref l1), some (.int l2), some (.int l3), some (.int l4), some (.ref l5), none] [] M (none, r) := by
  unfold f_op_handle_225 at h
  refine EV_stq mx_131 (pc' := 231) (L' := [none, some (.ref l1), some (.int l2), some (.int l3), some (.int l4), some (.ref l5), none]) (st' := [.int l4, .int l3, .int l2, .ref l5]) bo_131_225_a3292b rfl ?_
  refine h_ck h (fun hc h => ?_)
  refine h_cV h (fun M1 e h => ?_)
  refine EV_call [.ref l5, .int l2, .int l3, .int l4] [] mx_131 li_131_231 rfl rfl si_8_104 rfl (by decide) (by decide) (by omega) ma_86 rfl (Nat.le_of_ble_eq_true rfl) rfl rfl (Nat.le_of_ble_eq_true rfl) (rc_1 mt_at_86 rfl rfl (by decide) hc) (e_rc_add (by omega) l5 l2 l3 l4 M _ e) ?_
  show EV d 131 234 [none, some (.ref l1), some (.int l2), some (.int l3), some (.int l4), some (.ref l5), none] [] M1 _
  refine EV_stq mx_131 (pc' := 238) (L' := [none, some (.ref l1), some (.int l2), some (.int l3), some (.int l4), some (.ref l5), none]) (st' := [.int (0 : Int32), .int l3, .int l2, .ref l1]) bo_131_234_84c02c rfl ?_
  refine h_ck h (fun hc h => ?_)
  refine h_cV h (fun M2 e h => ?_)
  refine EV_call [.ref l1, .int l2, .int l3, .int (0 : Int32)] [] mx_131 li_131_238 rfl rfl si_8_124 rfl (by decide) (by decide) (by omega) ma_128 rfl (Nat.le_of_ble_eq_true rfl) rfl rfl (Nat.le_of_ble_eq_true rfl) (rc_1 mt_at_128 rfl rfl (by decide) hc) (e_ky_put (by omega) l1 l2 l3 (0 : Int32) M1 _ e) ?_
  show EV d 131 241 [none, some (.ref l1), some (.int l2), some (.int l3), some (.int l4), some (.ref l5), none] [] M2 _
  refine EV_stq mx_131 (pc' := 266) (L' := [none, some (.ref l1), some (.int l2), some (.int l3), some (.int l4), some (.ref l5), none]) (st' := []) bo_131_241_9507b2 rfl ?_
  obtain rfl := Option.some.inj h
  exact r_ret mx_131 li_131_266 rfl rfl
theorem e_op_handle {d : Nat} (hd : 2 ≤ d) (p0 : Nat) (p1 : Nat) (p2 : Int32) (p3 : Int32) (p4 : Int32) (p5 : Nat) (M : Mem) (r : Mem) (h : f_op_handle p0 p1 p2 p3 p4 p5 M = some r) : EV d 131 0 (entL 7 [.ref p0, .ref p1, .int p2, .int p3, .int p4, .ref p5]) [] M (none, r) := by
  show EV d 131 0 [some (.ref p0), some (.ref p1), some (.int p2), some (.int p3), some (.int p4), some (.ref p5), none] [] M _
  unfold f_op_handle at h
  refine EV_stq mx_131 (pc' := 1) (L' := [some (.ref p0), some (.ref p1), some (.int p2), some (.int p3), some (.int p4), some (.ref p5), none]) (st' := [.ref p0]) bo_131_0_8d5162 rfl ?_
  refine r_gI mx_131 li_131_1 fd_8_47 ⟨by decide, by decide⟩ h (fun v1 h => ?_)
  refine h_sw h (fun hh e0 => ?_) (fun h e0 => ?_)
  · clear h
    subst e0
    have h := hh
    clear hh
    refine r_tsI (off := 52) mx_131 li_131_4 (by decide +kernel) (by decide +kernel) (by decide) rfl ?_
    refine EV_stq mx_131 (pc' := 61) (L' := [some (.ref p0), some (.ref p1), some (.int p2), some (.int p3), some (.int p4), some (.ref p5), none]) (st' := [.ref p0, .int p3, .int p2, .ref p5]) bo_131_56_9cd3f1 rfl ?_
    refine r_gI mx_131 li_131_61 fd_8_51 ⟨by decide, by decide⟩ h (fun v2 h => ?_)
    refine EV_stq mx_131 (pc' := 66) (L' := [some (.ref p0), some (.ref p1), some (.int p2), some (.int p3), some (.int p4), some (.ref p5), none]) (st' := [.ref p0, .int (p3 * v2), .int p2, .ref p5]) bo_131_64_23d05d rfl ?_
    refine r_gI mx_131 li_131_66 fd_8_54 ⟨by decide, by decide⟩ h (fun v3 h => ?_)
    refine EV_stq mx_131 (pc' := 72) (L' := [some (.ref p0), some (.ref p1), some (.int p2), some (.int p3), some (.int p4), some (.ref p5), none]) (st' := [.int p4, .int ((p3 * v2) + v3), .int p2, .ref p5]) bo_131_69_1aaecf rfl ?_
    refine h_ck h (fun hc h => ?_)
    refine h_cV h (fun M4 e h => ?_)
    refine EV_call [.ref p5, .int p2, .int ((p3 * v2) + v3), .int p4] [] mx_131 li_131_72 rfl rfl si_8_104 rfl (by decide) (by decide) (by omega) ma_86 rfl (Nat.le_of_ble_eq_true rfl) rfl rfl (Nat.le_of_ble_eq_true rfl) (rc_1 mt_at_86 rfl rfl (by decide) hc) (e_rc_add (by omega) p5 p2 ((p3 * v2) + v3) p4 M _ e) ?_
    show EV d 131 75 [some (.ref p0), some (.ref p1), some (.int p2), some (.int p3), some (.int p4), some (.ref p5), none] [] M4 _
    refine EV_stq mx_131 (pc' := 266) (L' := [some (.ref p0), some (.ref p1), some (.int p2), some (.int p3), some (.int p4), some (.ref p5), none]) (st' := []) bo_131_75_1f1f88 rfl ?_
    obtain rfl := Option.some.inj h
    exact r_ret mx_131 li_131_266 rfl rfl
  refine h_sw h (fun hh e1 => ?_) (fun h e1 => ?_)
  · clear h
    subst e1
    have h := hh
    clear hh
    refine r_tsI (off := 74) mx_131 li_131_4 (by decide +kernel) (by decide +kernel) (by decide) rfl ?_
    refine EV_stq mx_131 (pc' := 80) (L' := [some (.ref p0), some (.ref p1), some (.int p2), some (.int p3), some (.int p4), some (.ref p5), none]) (st' := [.int p3, .ref p0]) bo_131_78_32a02f rfl ?_
    refine h_ck h (fun hc h => ?_)
    refine h_cI h (fun v6 M5 e h => ?_)
    refine EV_call [.ref p0, .int p3] [] mx_131 li_131_80 rfl rfl si_8_108 rfl (by decide) (by decide) (by omega) ma_124 rfl (Nat.le_of_ble_eq_true rfl) rfl rfl (Nat.le_of_ble_eq_true rfl) (rc_1 mt_at_124 rfl rfl (by decide) hc) (e_op_passes (by omega) p0 p3 M _ e) ?_
    show EV d 131 83 [some (.ref p0), some (.ref p1), some (.int p2), some (.int p3), some (.int p4), some (.ref p5), none] [.int v6] M5 _
    refine h_eq h (fun h hc => ?_) (fun h hc => ?_)
    · refine r_ifT mx_131 li_131_83 (by decide) rfl hc ?_
      obtain rfl := Option.some.inj h
      exact r_ret mx_131 li_131_266 rfl rfl
    · refine r_ifF mx_131 li_131_83 (by decide) hc ?_
      refine EV_stq mx_131 (pc' := 92) (L' := [some (.ref p0), some (.ref p1), some (.int p2), some (.int p3), some (.int p4), some (.ref p5), none]) (st' := [.int p4, .int p3, .int p2, .ref p5]) bo_131_86_467b1d rfl ?_
      refine h_ck h (fun hc h => ?_)
      refine h_cV h (fun M7 e h => ?_)
      refine EV_call [.ref p5, .int p2, .int p3, .int p4] [] mx_131 li_131_92 rfl rfl si_8_104 rfl (by decide) (by decide) (by omega) ma_86 rfl (Nat.le_of_ble_eq_true rfl) rfl rfl (Nat.le_of_ble_eq_true rfl) (rc_1 mt_at_86 rfl rfl (by decide) hc) (e_rc_add (by omega) p5 p2 p3 p4 M5 _ e) ?_
      show EV d 131 95 [some (.ref p0), some (.ref p1), some (.int p2), some (.int p3), some (.int p4), some (.ref p5), none] [] M7 _
      refine EV_stq mx_131 (pc' := 266) (L' := [some (.ref p0), some (.ref p1), some (.int p2), some (.int p3), some (.int p4), some (.ref p5), none]) (st' := []) bo_131_95_076086 rfl ?_
      obtain rfl := Option.some.inj h
      exact r_ret mx_131 li_131_266 rfl rfl
  refine h_sw h (fun hh e2 => ?_) (fun h e2 => ?_)
  · clear h
    subst e2
    have h := hh
    clear hh
    refine r_tsI (off := 94) mx_131 li_131_4 (by decide +kernel) (by decide +kernel) (by decide) rfl ?_
    refine EV_stq mx_131 (pc' := 102) (L' := [some (.ref p0), some (.ref p1), some (.int p2), some (.int p3), some (.int p4), some (.ref p5), none]) (st' := [.ref p0, .int p2, .ref p5]) bo_131_98_41e481 rfl ?_
    refine r_gI mx_131 li_131_102 fd_8_51 ⟨by decide, by decide⟩ h (fun v8 h => ?_)
    refine EV_stq mx_131 (pc' := 107) (L' := [some (.ref p0), some (.ref p1), some (.int p2), some (.int p3), some (.int p4), some (.ref p5), none]) (st' := [.ref p0, .int (p2 * v8), .ref p5]) bo_131_105_306733 rfl ?_
    refine r_gI mx_131 li_131_107 fd_8_54 ⟨by decide, by decide⟩ h (fun v9 h => ?_)
    refine EV_stq mx_131 (pc' := 113) (L' := [some (.ref p0), some (.ref p1), some (.int p2), some (.int p3), some (.int p4), some (.ref p5), none]) (st' := [.int (16 : Int32), .int ((p2 * v8) + v9), .ref p5]) bo_131_110_62a8bd rfl ?_
    refine h_cI h (fun v11 M10 e h => ?_)
    refine EV_call [.int ((p2 * v8) + v9), .int (16 : Int32)] [.ref p5] mx_131 li_131_113 rfl rfl si_8_111 rfl (by decide) (by decide) (by omega) ma_101 rfl (Nat.le_of_ble_eq_true rfl) rfl rfl (Nat.le_of_ble_eq_true rfl) rfl (e_ma_floorMod (by omega) ((p2 * v8) + v9) (16 : Int32) M _ e) ?_
    show EV d 131 116 [some (.ref p0), some (.ref p1), some (.int p2), some (.int p3), some (.int p4), some (.ref p5), none] [.int v11, .ref p5] M10 _
    refine EV_stq mx_131 (pc' := 119) (L' := [some (.ref p0), some (.ref p1), some (.int p2), some (.int p3), some (.int p4), some (.ref p5), none]) (st' := [.int p4, .int p3, .int v11, .ref p5]) bo_131_116_af1398 rfl ?_
    refine h_ck h (fun hc h => ?_)
    refine h_cV h (fun M12 e h => ?_)
    refine EV_call [.ref p5, .int v11, .int p3, .int p4] [] mx_131 li_131_119 rfl rfl si_8_104 rfl (by decide) (by decide) (by omega) ma_86 rfl (Nat.le_of_ble_eq_true rfl) rfl rfl (Nat.le_of_ble_eq_true rfl) (rc_1 mt_at_86 rfl rfl (by decide) hc) (e_rc_add (by omega) p5 v11 p3 p4 M10 _ e) ?_
    show EV d 131 122 [some (.ref p0), some (.ref p1), some (.int p2), some (.int p3), some (.int p4), some (.ref p5), none] [] M12 _
    refine EV_stq mx_131 (pc' := 266) (L' := [some (.ref p0), some (.ref p1), some (.int p2), some (.int p3), some (.int p4), some (.ref p5), none]) (st' := []) bo_131_122_61bca2 rfl ?_
    obtain rfl := Option.some.inj h
    exact r_ret mx_131 li_131_266 rfl rfl
  refine h_sw h (fun hh e3 => ?_) (fun h e3 => ?_)
  · clear h
    subst e3
    have h := hh
    clear hh
    refine r_tsI (off := 121) mx_131 li_131_4 (by decide +kernel) (by decide +kernel) (by decide) rfl ?_
    refine EV_stq mx_131 (pc' := 128) (L' := [some (.ref p0), some (.ref p1), some (.int p2), some (.int p3), some (.int p4), some (.ref p5), some (.int (0 : Int32))]) (st' := []) bo_131_125_e95541 rfl ?_
    refine EV_forget (A := [some (.ref p0), none, some (.int p2), some (.int p3), some (.int p4), some (.ref p5), some (.int (0 : Int32))]) (lsub_of _ _ ⟨Or.inr rfl, ⟨Or.inl rfl, ⟨Or.inr rfl, ⟨Or.inr rfl, ⟨Or.inr rfl, ⟨Or.inr rfl, ⟨Or.inr rfl, trivial⟩⟩⟩⟩⟩⟩⟩) ?_
    exact e_op_handle_128 hd FU p0 p2 p3 p4 p5 (0 : Int32) M r h
  refine h_sw h (fun hh e4 => ?_) (fun h e4 => ?_)
  · clear h
    subst e4
    have h := hh
    clear hh
    refine r_tsI (off := 154) mx_131 li_131_4 (by decide +kernel) (by decide +kernel) (by decide) rfl ?_
    refine EV_stq mx_131 (pc' := 166) (L' := [some (.ref p0), some (.ref p1), some (.int p2), some (.int p3), some (.int p4), some (.ref p5), none]) (st' := [.ref p5, .int p4, .int p3, .int p2, .ref p1, .ref p0]) bo_131_158_fd1ac1 rfl ?_
    refine h_ck h (fun hc h => ?_)
    refine h_cV h (fun M13 e h => ?_)
    refine EV_call [.ref p0, .ref p1, .int p2, .int p3, .int p4, .ref p5] [] mx_131 li_131_166 rfl rfl si_8_116 rfl (by decide) (by decide) (by omega) ma_129 rfl (Nat.le_of_ble_eq_true rfl) rfl rfl (Nat.le_of_ble_eq_true rfl) (rc_1 mt_at_129 rfl rfl (by decide) hc) (e_op_addToSum (by omega) p0 p1 p2 p3 p4 p5 M _ e) ?_
    show EV d 131 169 [some (.ref p0), some (.ref p1), some (.int p2), some (.int p3), some (.int p4), some (.ref p5), none] [] M13 _
    refine EV_stq mx_131 (pc' := 266) (L' := [some (.ref p0), some (.ref p1), some (.int p2), some (.int p3), some (.int p4), some (.ref p5), none]) (st' := []) bo_131_169_66a7ab rfl ?_
    obtain rfl := Option.some.inj h
    exact r_ret mx_131 li_131_266 rfl rfl
  refine h_sw h (fun hh e5 => ?_) (fun h e5 => ?_)
  · clear h
    subst e5
    have h := hh
    clear hh
    refine r_tsI (off := 168) mx_131 li_131_4 (by decide +kernel) (by decide +kernel) (by decide) rfl ?_
    refine EV_stq mx_131 (pc' := 174) (L' := [some (.ref p0), some (.ref p1), some (.int p2), some (.int p3), some (.int p4), some (.ref p5), none]) (st' := [.int p2, .ref p1]) bo_131_172_1fd094 rfl ?_
    refine h_ck h (fun hc h => ?_)
    refine h_cI h (fun v15 M14 e h => ?_)
    refine EV_call [.ref p1, .int p2] [] mx_131 li_131_174 rfl rfl si_8_60 rfl (by decide) (by decide) (by omega) ma_130 rfl (Nat.le_of_ble_eq_true rfl) rfl rfl (Nat.le_of_ble_eq_true rfl) (rc_1 mt_at_130 rfl rfl (by decide) hc) (e_ky_has (by omega) p1 p2 M _ e) ?_
    show EV d 131 177 [some (.ref p0), some (.ref p1), some (.int p2), some (.int p3), some (.int p4), some (.ref p5), none] [.int v15] M14 _
    refine h_eq h (fun h hc => ?_) (fun h hc => ?_)
    · refine r_ifT mx_131 li_131_177 (by decide) rfl hc ?_
      refine EV_forget (A := [none, some (.ref p1), some (.int p2), some (.int p3), some (.int p4), some (.ref p5), none]) (lsub_of _ _ ⟨Or.inl rfl, ⟨Or.inr rfl, ⟨Or.inr rfl, ⟨Or.inr rfl, ⟨Or.inr rfl, ⟨Or.inr rfl, ⟨Or.inl rfl, trivial⟩⟩⟩⟩⟩⟩⟩) ?_
      exact e_op_handle_189 hd p1 p2 p3 p4 p5 M14 r h
    · refine r_ifF mx_131 li_131_177 (by decide) hc ?_
      refine EV_stq mx_131 (pc' := 182) (L' := [some (.ref p0), some (.ref p1), some (.int p2), some (.int p3), some (.int p4), some (.ref p5), none]) (st' := [.int p2, .ref p1]) bo_131_180_244653 rfl ?_
      refine h_ck h (fun hc h => ?_)
      refine h_cI h (fun v17 M16 e h => ?_)
      refine EV_call [.ref p1, .int p2] [] mx_131 li_131_182 rfl rfl si_8_120 rfl (by decide) (by decide) (by omega) ma_125 rfl (Nat.le_of_ble_eq_true rfl) rfl rfl (Nat.le_of_ble_eq_true rfl) (rc_1 mt_at_125 rfl rfl (by decide) hc) (e_ky_firstOf (by omega) p1 p2 M14 _ e) ?_
      show EV d 131 185 [some (.ref p0), some (.ref p1), some (.int p2), some (.int p3), some (.int p4), some (.ref p5), none] [.int v17] M16 _
      refine EV_stq mx_131 (pc' := 186) (L' := [some (.ref p0), some (.ref p1), some (.int p2), some (.int p3), some (.int p4), some (.ref p5), none]) (st' := [.int p3, .int v17]) bo_131_185_83a65f rfl ?_
      refine h_eq h (fun h hc => ?_) (fun h hc => ?_)
      · refine r_icT mx_131 li_131_186 (by decide) rfl hc ?_
        refine EV_forget (A := [none, some (.ref p1), some (.int p2), some (.int p3), none, none, none]) (lsub_of _ _ ⟨Or.inl rfl, ⟨Or.inr rfl, ⟨Or.inr rfl, ⟨Or.inr rfl, ⟨Or.inl rfl, ⟨Or.inl rfl, ⟨Or.inl rfl, trivial⟩⟩⟩⟩⟩⟩⟩) ?_
        exact e_op_handle_198 hd p1 p2 p3 M16 r h
      · refine r_icF mx_131 li_131_186 (by decide) hc ?_
        refine EV_forget (A := [none, some (.ref p1), some (.int p2), some (.int p3), some (.int p4), some (.ref p5), none]) (lsub_of _ _ ⟨Or.inl rfl, ⟨Or.inr rfl, ⟨Or.inr rfl, ⟨Or.inr rfl, ⟨Or.inr rfl, ⟨Or.inr rfl, ⟨Or.inl rfl, trivial⟩⟩⟩⟩⟩⟩⟩) ?_
        exact e_op_handle_189 hd p1 p2 p3 p4 p5 M16 r h
  refine h_sw h (fun hh e6 => ?_) (fun h e6 => ?_)
  · clear h
    subst e6
    have h := hh
    clear hh
    refine r_tsI (off := 204) mx_131 li_131_4 (by decide +kernel) (by decide +kernel) (by decide) rfl ?_
    refine EV_stq mx_131 (pc' := 210) (L' := [some (.ref p0), some (.ref p1), some (.int p2), some (.int p3), some (.int p4), some (.ref p5), none]) (st' := [.int p2, .ref p1]) bo_131_208_2f5ac8 rfl ?_
    refine h_ck h (fun hc h => ?_)
    refine h_cI h (fun v19 M18 e h => ?_)
    refine EV_call [.ref p1, .int p2] [] mx_131 li_131_210 rfl rfl si_8_60 rfl (by decide) (by decide) (by omega) ma_130 rfl (Nat.le_of_ble_eq_true rfl) rfl rfl (Nat.le_of_ble_eq_true rfl) (rc_1 mt_at_130 rfl rfl (by decide) hc) (e_ky_has (by omega) p1 p2 M _ e) ?_
    show EV d 131 213 [some (.ref p0), some (.ref p1), some (.int p2), some (.int p3), some (.int p4), some (.ref p5), none] [.int v19] M18 _
    refine h_eq h (fun h hc => ?_) (fun h hc => ?_)
    · refine r_ifT mx_131 li_131_213 (by decide) rfl hc ?_
      refine EV_forget (A := [none, some (.ref p1), some (.int p2), some (.int p3), some (.int p4), some (.ref p5), none]) (lsub_of _ _ ⟨Or.inl rfl, ⟨Or.inr rfl, ⟨Or.inr rfl, ⟨Or.inr rfl, ⟨Or.inr rfl, ⟨Or.inr rfl, ⟨Or.inl rfl, trivial⟩⟩⟩⟩⟩⟩⟩) ?_
      exact e_op_handle_225 hd p1 p2 p3 p4 p5 M18 r h
    · refine r_ifF mx_131 li_131_213 (by decide) hc ?_
      refine EV_stq mx_131 (pc' := 219) (L' := [some (.ref p0), some (.ref p1), some (.int p2), some (.int p3), some (.int p4), some (.ref p5), none]) (st' := [.int p2, .ref p1, .int p3]) bo_131_216_0a9b53 rfl ?_
      refine h_ck h (fun hc h => ?_)
      refine h_cI h (fun v21 M20 e h => ?_)
      refine EV_call [.ref p1, .int p2] [.int p3] mx_131 li_131_219 rfl rfl si_8_120 rfl (by decide) (by decide) (by omega) ma_125 rfl (Nat.le_of_ble_eq_true rfl) rfl rfl (Nat.le_of_ble_eq_true rfl) (rc_1 mt_at_125 rfl rfl (by decide) hc) (e_ky_firstOf (by omega) p1 p2 M18 _ e) ?_
      show EV d 131 222 [some (.ref p0), some (.ref p1), some (.int p2), some (.int p3), some (.int p4), some (.ref p5), none] [.int v21, .int p3] M20 _
      refine h_le h (fun h hc => ?_) (fun h hc => ?_)
      · refine r_icT mx_131 li_131_222 (by decide) rfl hc ?_
        obtain rfl := Option.some.inj h
        exact r_ret mx_131 li_131_266 rfl rfl
      · refine r_icF mx_131 li_131_222 (by decide) hc ?_
        refine EV_forget (A := [none, some (.ref p1), some (.int p2), some (.int p3), some (.int p4), some (.ref p5), none]) (lsub_of _ _ ⟨Or.inl rfl, ⟨Or.inr rfl, ⟨Or.inr rfl, ⟨Or.inr rfl, ⟨Or.inr rfl, ⟨Or.inr rfl, ⟨Or.inl rfl, trivial⟩⟩⟩⟩⟩⟩⟩) ?_
        exact e_op_handle_225 hd p1 p2 p3 p4 p5 M20 r h
  refine h_sw h (fun hh e7 => ?_) (fun h e7 => ?_)
  · clear h
    subst e7
    have h := hh
    clear hh
    refine r_tsI (off := 262) mx_131 li_131_4 (by decide +kernel) (by decide +kernel) (by decide) rfl ?_
    obtain rfl := Option.some.inj h
    exact r_ret mx_131 li_131_266 rfl rfl
  refine h_sw h (fun hh e8 => ?_) (fun h e8 => ?_)
  · clear h
    subst e8
    have h := hh
    clear hh
    refine r_tsI (off := 240) mx_131 li_131_4 (by decide +kernel) (by decide +kernel) (by decide) rfl ?_
    refine EV_stq mx_131 (pc' := 248) (L' := [some (.ref p0), some (.ref p1), some (.int p2), some (.int p3), some (.int p4), some (.ref p5), none]) (st' := [.int p2, .ref p1, .int p2, .ref p1]) bo_131_244_8c288d rfl ?_
    refine h_ck h (fun hc h => ?_)
    refine h_cI h (fun v23 M22 e h => ?_)
    refine EV_call [.ref p1, .int p2] [.int p2, .ref p1] mx_131 li_131_248 rfl rfl si_8_120 rfl (by decide) (by decide) (by omega) ma_125 rfl (Nat.le_of_ble_eq_true rfl) rfl rfl (Nat.le_of_ble_eq_true rfl) (rc_1 mt_at_125 rfl rfl (by decide) hc) (e_ky_firstOf (by omega) p1 p2 M _ e) ?_
    show EV d 131 251 [some (.ref p0), some (.ref p1), some (.int p2), some (.int p3), some (.int p4), some (.ref p5), none] [.int v23, .int p2, .ref p1] M22 _
    refine EV_stq mx_131 (pc' := 255) (L' := [some (.ref p0), some (.ref p1), some (.int p2), some (.int p3), some (.int p4), some (.ref p5), none]) (st' := [.int p2, .ref p1, .int (v23 + p3), .int p2, .ref p1]) bo_131_251_b35181 rfl ?_
    refine h_ck h (fun hc h => ?_)
    refine h_cI h (fun v25 M24 e h => ?_)
    refine EV_call [.ref p1, .int p2] [.int (v23 + p3), .int p2, .ref p1] mx_131 li_131_255 rfl rfl si_8_127 rfl (by decide) (by decide) (by omega) ma_126 rfl (Nat.le_of_ble_eq_true rfl) rfl rfl (Nat.le_of_ble_eq_true rfl) (rc_1 mt_at_126 rfl rfl (by decide) hc) (e_ky_secondOf (by omega) p1 p2 M22 _ e) ?_
    show EV d 131 258 [some (.ref p0), some (.ref p1), some (.int p2), some (.int p3), some (.int p4), some (.ref p5), none] [.int v25, .int (v23 + p3), .int p2, .ref p1] M24 _
    refine EV_stq mx_131 (pc' := 260) (L' := [some (.ref p0), some (.ref p1), some (.int p2), some (.int p3), some (.int p4), some (.ref p5), none]) (st' := [.int (v25 + (1 : Int32)), .int (v23 + p3), .int p2, .ref p1]) bo_131_258_d8e294 rfl ?_
    refine h_ck h (fun hc h => ?_)
    refine h_cV h (fun M26 e h => ?_)
    refine EV_call [.ref p1, .int p2, .int (v23 + p3), .int (v25 + (1 : Int32))] [] mx_131 li_131_260 rfl rfl si_8_124 rfl (by decide) (by decide) (by omega) ma_128 rfl (Nat.le_of_ble_eq_true rfl) rfl rfl (Nat.le_of_ble_eq_true rfl) (rc_1 mt_at_128 rfl rfl (by decide) hc) (e_ky_put (by omega) p1 p2 (v23 + p3) (v25 + (1 : Int32)) M24 _ e) ?_
    show EV d 131 263 [some (.ref p0), some (.ref p1), some (.int p2), some (.int p3), some (.int p4), some (.ref p5), none] [] M26 _
    refine EV_stq mx_131 (pc' := 266) (L' := [some (.ref p0), some (.ref p1), some (.int p2), some (.int p3), some (.int p4), some (.ref p5), none]) (st' := []) bo_131_263_440454 rfl ?_
    obtain rfl := Option.some.inj h
    exact r_ret mx_131 li_131_266 rfl rfl
  refine r_tsD mx_131 li_131_4 (by have n0 := lv_neT e0 (a := 0) (by decide); have n1 := lv_neT e1 (a := 1) (by decide); have n2 := lv_neT e2 (a := 2) (by decide); have n3 := lv_neT e3 (a := 3) (by decide); have n4 := lv_neT e4 (a := 4) (by decide); have n5 := lv_neT e5 (a := 5) (by decide); have n6 := lv_neT e6 (a := 6) (by decide); have n7 := lv_neT e7 (a := 7) (by decide); have n8 := lv_neT e8 (a := 8) (by decide); omega) (by decide) rfl ?_
  obtain rfl := Option.some.inj h
  exact r_ret mx_131 li_131_266 rfl rfl
theorem e_sm_takeItem_175 {d : Nat} (hd : 3 ≤ d) (l3 : Nat) (l4 : Nat) (l8 : Int32) (l9 : Int32) (l10 : Int32) (M : Mem) (r : Int32 × Mem) (h : f_sm_takeItem_175 l3 l4 l8 l9 l10 M = some r) : EV d 132 175 [none, none, none, some (.ref l3), some (.ref l4), none, none, none, some (.int l8), some (.int l9), some (.int l10)] [] M (some (.int r.1), r.2) := by
  unfold f_sm_takeItem_175 at h
  refine EV_stq mx_132 (pc' := 177) (L' := [none, none, none, some (.ref l3), some (.ref l4), none, none, none, some (.int l8), some (.int l9), some (.int l10)]) (st' := [.ref l3, .ref l3]) bo_132_175_023fd3 rfl ?_
  refine r_gA mx_132 li_132_177 fd_10_171 rfl h (fun a1 h => ?_)
  refine EV_stq mx_132 (pc' := 188) (L' := [none, none, none, some (.ref l3), some (.ref l4), none, none, none, some (.int l8), some (.int l9), some (.int l10)]) (st' := [.ref l4, .int l10, .int l9, .int l8, .ref a1, .ref l3]) bo_132_180_406e84 rfl ?_
  refine r_gA mx_132 li_132_188 fd_10_168 rfl h (fun a2 h => ?_)
  refine h_ck h (fun hc h => ?_)
  refine h_cV h (fun M3 e h => ?_)
  refine EV_call [.ref l3, .ref a1, .int l8, .int l9, .int l10, .ref a2] [] mx_132 li_132_191 rfl rfl si_10_301 rfl (by decide) (by decide) (by omega) ma_131 rfl (Nat.le_of_ble_eq_true rfl) rfl rfl (Nat.le_of_ble_eq_true rfl) (rc_1 mt_at_131 rfl rfl (by decide) hc) (e_op_handle (by omega) l3 a1 l8 l9 l10 a2 M _ e) ?_
  show EV d 132 194 [none, none, none, some (.ref l3), some (.ref l4), none, none, none, some (.int l8), some (.int l9), some (.int l10)] [] M3 _
  refine EV_stq mx_132 (pc' := 196) (L' := [none, none, none, some (.ref l3), some (.ref l4), none, none, none, some (.int l8), some (.int l9), some (.int l10)]) (st' := [.ref l3, .ref l3]) bo_132_194_c29a81 rfl ?_
  refine r_gI mx_132 li_132_196 fd_10_279 ⟨by decide, by decide⟩ h (fun v4 h => ?_)
  refine EV_stq mx_132 (pc' := 201) (L' := [none, none, none, some (.ref l3), some (.ref l4), none, none, none, some (.int l8), some (.int l9), some (.int l10)]) (st' := [.ref l4, .int v4, .ref l3]) bo_132_199_c60df3 rfl ?_
  refine r_gA mx_132 li_132_201 fd_10_168 rfl h (fun a5 h => ?_)
  refine r_gI mx_132 li_132_204 fd_10_156 ⟨by decide, by decide⟩ h (fun v6 h => ?_)
  refine EV_stq mx_132 (pc' := 208) (L' := [none, none, none, some (.ref l3), some (.ref l4), none, none, none, some (.int l8), some (.int l9), some (.int l10)]) (st' := [.int (v4 + v6), .ref l3]) bo_132_207_7432fb rfl ?_
  refine r_pI mx_132 li_132_208 fd_10_279 (Or.inl rfl) rfl h (fun M7 h => ?_)
  refine EV_stq mx_132 (pc' := 212) (L' := [none, none, none, some (.ref l3), some (.ref l4), none, none, none, some (.int l8), some (.int l9), some (.int l10)]) (st' := [.int (1 : Int32)]) bo_132_211_fe9fe9 rfl ?_
  obtain rfl := Option.some.inj h
  exact r_ret mx_132 li_132_212 rfl (ro_nar (t := .boolean) (by decide) rfl)
theorem e_sm_takeItem {d : Nat} (hd : 3 ≤ d) (p0 : Nat) (p1 : Int32) (p2 : Int32) (p3 : Nat) (p4 : Nat) (M : Mem) (r : Int32 × Mem) (h : f_sm_takeItem p0 p1 p2 p3 p4 M = some r) : EV d 132 0 (entL 11 [.ref p0, .int p1, .int p2, .ref p3, .ref p4]) [] M (some (.int r.1), r.2) := by
  show EV d 132 0 [some (.ref p0), some (.int p1), some (.int p2), some (.ref p3), some (.ref p4), none, none, none, none, none, none] [] M _
  unfold f_sm_takeItem at h
  refine EV_stq mx_132 (pc' := 4) (L' := [some (.ref p0), some (.int p1), some (.int p2), some (.ref p3), some (.ref p4), none, none, none, none, none, none]) (st' := [.int (p1 - (1 : Int32)), .ref p0]) bo_132_0_5a4d31 rfl ?_
  refine h_ck h (fun hc h => ?_)
  refine h_cI h (fun v2 M1 e h => ?_)
  refine EV_call [.ref p0, .int (p1 - (1 : Int32))] [] mx_132 li_132_4 rfl rfl si_10_129 rfl (by decide) (by decide) (by omega) ma_90 rfl (Nat.le_of_ble_eq_true rfl) rfl rfl (Nat.le_of_ble_eq_true rfl) (rc_1 mt_at_90 rfl rfl (by decide) hc) (e_sm_sizeOf (by omega) p0 (p1 - (1 : Int32)) M _ e) ?_
  show EV d 132 7 [some (.ref p0), some (.int p1), some (.int p2), some (.ref p3), some (.ref p4), none, none, none, none, none, none] [.int v2] M1 _
  refine EV_stq mx_132 (pc' := 12) (L' := [some (.ref p0), some (.int p1), some (.int p2), some (.ref p3), some (.ref p4), some (.int v2), none, none, none, none, none]) (st' := [.int p2, .int p1, .ref p0]) bo_132_7_2a6c60 rfl ?_
  refine h_ck h (fun hc h => ?_)
  refine h_cI h (fun v4 M3 e h => ?_)
  refine EV_call [.ref p0, .int p1, .int p2] [] mx_132 li_132_12 rfl rfl si_10_282 rfl (by decide) (by decide) (by omega) ma_116 rfl (Nat.le_of_ble_eq_true rfl) rfl rfl (Nat.le_of_ble_eq_true rfl) (rc_1 mt_at_116 rfl rfl (by decide) hc) (e_sm_inputToTake (by omega) p0 p1 p2 M1 _ e) ?_
  show EV d 132 15 [some (.ref p0), some (.int p1), some (.int p2), some (.ref p3), some (.ref p4), some (.int v2), none, none, none, none, none] [.int v4] M3 _
  refine EV_stq mx_132 (pc' := 24) (L' := [some (.ref p0), some (.int p1), some (.int p2), some (.ref p3), some (.ref p4), some (.int v2), some (.int v4), none, none, none, none]) (st' := [.int p2, .int v4, .int (p1 - (1 : Int32)), .ref p0]) bo_132_15_093530 rfl ?_
  refine h_ck h (fun hc h => ?_)
  refine h_cR h (fun o6 M5 e h => ?_)
  refine EV_call [.ref p0, .int (p1 - (1 : Int32)), .int v4, .int p2] [] mx_132 li_132_24 rfl rfl si_10_205 rfl (by decide) (by decide) (by omega) ma_103 rfl (Nat.le_of_ble_eq_true rfl) rfl rfl (Nat.le_of_ble_eq_true rfl) (rc_1 mt_at_103 rfl rfl (by decide) hc) (e_sm_channelAt (by omega) p0 (p1 - (1 : Int32)) v4 p2 M3 _ e) ?_
  refine h_onR (G := fun o => EV d 132 27 [some (.ref p0), some (.int p1), some (.int p2), some (.ref p3), some (.ref p4), some (.int v2), some (.int v4), none, none, none, none] [rfv o] M5 _) h (fun h => ?_) (fun a7 h => ?_)
  · refine EV_stq mx_132 (pc' := 40) (L' := [some (.ref p0), some (.int p1), some (.int p2), some (.ref p3), some (.ref p4), some (.int v2), some (.int v4), some (.null), none, none, none]) (st' := [.int (0 : Int32)]) bo_132_27_57696c rfl ?_
    obtain rfl := Option.some.inj h
    exact r_ret mx_132 li_132_40 rfl (ro_nar (t := .boolean) (by decide) rfl)
  · refine EV_stq mx_132 (pc' := 36) (L' := [some (.ref p0), some (.int p1), some (.int p2), some (.ref p3), some (.ref p4), some (.int v2), some (.int v4), some (.ref a7), none, none, none]) (st' := [.int v2]) bo_132_27_0c988f rfl ?_
    refine h_gt h (fun h hc => ?_) (fun h hc => ?_)
    · refine r_ifT mx_132 li_132_36 (by decide) rfl hc ?_
      refine EV_stq mx_132 (pc' := 49) (L' := [some (.ref p0), some (.int p1), some (.int p2), some (.ref p3), some (.ref p4), some (.int v2), some (.int v4), some (.ref a7), none, none, none]) (st' := [.int v2, .int (v4 + (1 : Int32)), .ref p4]) bo_132_41_eec91f rfl ?_
      refine r_rm mx_132 li_132_49 h (fun v8 h => ?_)
      refine r_pI mx_132 li_132_50 fd_10_212 (Or.inl rfl) rfl h (fun M9 h => ?_)
      refine EV_stq mx_132 (pc' := 55) (L' := [some (.ref p0), some (.int p1), some (.int p2), some (.ref p3), some (.ref p4), some (.int v2), some (.int v4), some (.ref a7), none, none, none]) (st' := [.ref a7]) bo_132_53_a422c0 rfl ?_
      refine h_ck h (fun hc h => ?_)
      refine h_cI h (fun v11 M10 e h => ?_)
      refine EV_call [.ref a7] [] mx_132 li_132_55 rfl rfl si_10_285 rfl (by decide) (by decide) (by omega) ma_117 rfl (Nat.le_of_ble_eq_true rfl) rfl rfl (Nat.le_of_ble_eq_true rfl) (rc_1 mt_at_117 rfl rfl (by decide) hc) (e_ch_startsWithBarrier (by omega) a7 M9 _ e) ?_
      show EV d 132 58 [some (.ref p0), some (.int p1), some (.int p2), some (.ref p3), some (.ref p4), some (.int v2), some (.int v4), some (.ref a7), none, none, none] [.int v11] M10 _
      refine h_eq h (fun h hc => ?_) (fun h hc => ?_)
      · refine r_ifT mx_132 li_132_58 (by decide) rfl hc ?_
        refine EV_stq mx_132 (pc' := 106) (L' := [some (.ref p0), some (.int p1), some (.int p2), some (.ref p3), some (.ref p4), some (.int v2), some (.int v4), some (.ref a7), none, none, none]) (st' := [.ref a7]) bo_132_104_a38d21 rfl ?_
        refine r_gA mx_132 li_132_106 fd_10_165 rfl h (fun a12 h => ?_)
        refine EV_stq mx_132 (pc' := 110) (L' := [some (.ref p0), some (.int p1), some (.int p2), some (.ref p3), some (.ref p4), some (.int v2), some (.int v4), some (.ref a7), none, none, none]) (st' := [.int (0 : Int32), .ref a12]) bo_132_109_9ce450 rfl ?_
        refine h_ck h (fun hc h => ?_)
        refine h_cI h (fun v14 M13 e h => ?_)
        refine EV_call [.ref a12, .int (0 : Int32)] [] mx_132 li_132_110 rfl rfl si_10_193 rfl (by decide) (by decide) (by omega) ma_99 rfl (Nat.le_of_ble_eq_true rfl) rfl rfl (Nat.le_of_ble_eq_true rfl) (rc_1 mt_at_99 rfl rfl (by decide) hc) (e_rc_keyAt (by omega) a12 (0 : Int32) M10 _ e) ?_
        show EV d 132 113 [some (.ref p0), some (.int p1), some (.int p2), some (.ref p3), some (.ref p4), some (.int v2), some (.int v4), some (.ref a7), none, none, none] [.int v14] M13 _
        refine EV_stq mx_132 (pc' := 117) (L' := [some (.ref p0), some (.int p1), some (.int p2), some (.ref p3), some (.ref p4), some (.int v2), some (.int v4), some (.ref a7), some (.int v14), none, none]) (st' := [.ref a7]) bo_132_113_55d908 rfl ?_
        refine r_gA mx_132 li_132_117 fd_10_165 rfl h (fun a15 h => ?_)
        refine EV_stq mx_132 (pc' := 121) (L' := [some (.ref p0), some (.int p1), some (.int p2), some (.ref p3), some (.ref p4), some (.int v2), some (.int v4), some (.ref a7), some (.int v14), none, none]) (st' := [.int (0 : Int32), .ref a15]) bo_132_120_9b2503 rfl ?_
        refine h_ck h (fun hc h => ?_)
        refine h_cI h (fun v17 M16 e h => ?_)
        refine EV_call [.ref a15, .int (0 : Int32)] [] mx_132 li_132_121 rfl rfl si_10_254 rfl (by decide) (by decide) (by omega) ma_105 rfl (Nat.le_of_ble_eq_true rfl) rfl rfl (Nat.le_of_ble_eq_true rfl) (rc_1 mt_at_105 rfl rfl (by decide) hc) (e_rc_valueAt (by omega) a15 (0 : Int32) M13 _ e) ?_
        show EV d 132 124 [some (.ref p0), some (.int p1), some (.int p2), some (.ref p3), some (.ref p4), some (.int v2), some (.int v4), some (.ref a7), some (.int v14), none, none] [.int v17] M16 _
        refine EV_stq mx_132 (pc' := 128) (L' := [some (.ref p0), some (.int p1), some (.int p2), some (.ref p3), some (.ref p4), some (.int v2), some (.int v4), some (.ref a7), some (.int v14), some (.int v17), none]) (st' := [.ref a7]) bo_132_124_7ef869 rfl ?_
        refine r_gA mx_132 li_132_128 fd_10_165 rfl h (fun a18 h => ?_)
        refine EV_stq mx_132 (pc' := 132) (L' := [some (.ref p0), some (.int p1), some (.int p2), some (.ref p3), some (.ref p4), some (.int v2), some (.int v4), some (.ref a7), some (.int v14), some (.int v17), none]) (st' := [.int (0 : Int32), .ref a18]) bo_132_131_fdd2ba rfl ?_
        refine h_ck h (fun hc h => ?_)
        refine h_cI h (fun v20 M19 e h => ?_)
        refine EV_call [.ref a18, .int (0 : Int32)] [] mx_132 li_132_132 rfl rfl si_10_257 rfl (by decide) (by decide) (by omega) ma_106 rfl (Nat.le_of_ble_eq_true rfl) rfl rfl (Nat.le_of_ble_eq_true rfl) (rc_1 mt_at_106 rfl rfl (by decide) hc) (e_rc_birthAt (by omega) a18 (0 : Int32) M16 _ e) ?_
        show EV d 132 135 [some (.ref p0), some (.int p1), some (.int p2), some (.ref p3), some (.ref p4), some (.int v2), some (.int v4), some (.ref a7), some (.int v14), some (.int v17), none] [.int v20] M19 _
        refine EV_stq mx_132 (pc' := 139) (L' := [some (.ref p0), some (.int p1), some (.int p2), some (.ref p3), some (.ref p4), some (.int v2), some (.int v4), some (.ref a7), some (.int v14), some (.int v17), some (.int v20)]) (st' := [.ref a7]) bo_132_135_ccf8ec rfl ?_
        refine h_ck h (fun hc h => ?_)
        refine h_cV h (fun M21 e h => ?_)
        refine EV_call [.ref a7] [] mx_132 li_132_139 rfl rfl si_10_288 rfl (by decide) (by decide) (by omega) ma_118 rfl (Nat.le_of_ble_eq_true rfl) rfl rfl (Nat.le_of_ble_eq_true rfl) (rc_1 mt_at_118 rfl rfl (by decide) hc) (e_ch_removeItem (by omega) a7 M19 _ e) ?_
        show EV d 132 142 [some (.ref p0), some (.int p1), some (.int p2), some (.ref p3), some (.ref p4), some (.int v2), some (.int v4), some (.ref a7), some (.int v14), some (.int v17), some (.int v20)] [] M21 _
        refine EV_stq mx_132 (pc' := 144) (L' := [some (.ref p0), some (.int p1), some (.int p2), some (.ref p3), some (.ref p4), some (.int v2), some (.int v4), some (.ref a7), some (.int v14), some (.int v17), some (.int v20)]) (st' := [.ref p3, .ref p3]) bo_132_142_6f3fc7 rfl ?_
        refine r_gI mx_132 li_132_144 fd_10_276 ⟨by decide, by decide⟩ h (fun v22 h => ?_)
        refine EV_stq mx_132 (pc' := 149) (L' := [some (.ref p0), some (.int p1), some (.int p2), some (.ref p3), some (.ref p4), some (.int v2), some (.int v4), some (.ref a7), some (.int v14), some (.int v17), some (.int v20)]) (st' := [.int (v22 + (1 : Int32)), .ref p3]) bo_132_147_a7d9dd rfl ?_
        refine r_pI mx_132 li_132_149 fd_10_276 (Or.inl rfl) rfl h (fun M23 h => ?_)
        refine EV_stq mx_132 (pc' := 153) (L' := [some (.ref p0), some (.int p1), some (.int p2), some (.ref p3), some (.ref p4), some (.int v2), some (.int v4), some (.ref a7), some (.int v14), some (.int v17), some (.int v20)]) (st' := [.ref p3]) bo_132_152_675174 rfl ?_
        refine r_gI mx_132 li_132_153 fd_10_295 ⟨by decide, by decide⟩ h (fun v24 h => ?_)
        refine EV_stq mx_132 (pc' := 158) (L' := [some (.ref p0), some (.int p1), some (.int p2), some (.ref p3), some (.ref p4), some (.int v2), some (.int v4), some (.ref a7), some (.int v14), some (.int v17), some (.int v20)]) (st' := [.int (8 : Int32), .int v24]) bo_132_156_ed02b7 rfl ?_
        refine h_ne h (fun h hc => ?_) (fun h hc => ?_)
        · refine r_icF mx_132 li_132_158 (by decide) hc ?_
          refine EV_stq mx_132 (pc' := 162) (L' := [some (.ref p0), some (.int p1), some (.int p2), some (.ref p3), some (.ref p4), some (.int v2), some (.int v4), some (.ref a7), some (.int v14), some (.int v17), some (.int v20)]) (st' := [.ref p0]) bo_132_161_f5f45a rfl ?_
          refine r_gA mx_132 li_132_162 fd_10_42 rfl h (fun a25 h => ?_)
          refine EV_stq mx_132 (pc' := 166) (L' := [some (.ref p0), some (.int p1), some (.int p2), some (.ref p3), some (.ref p4), some (.int v2), some (.int v4), some (.ref a7), some (.int v14), some (.int v17), some (.int v20)]) (st' := [.ref p0, .ref a25]) bo_132_165_882680 rfl ?_
          refine r_gI mx_132 li_132_166 fd_10_103 ⟨by decide, by decide⟩ h (fun v26 h => ?_)
          refine EV_stq mx_132 (pc' := 172) (L' := [some (.ref p0), some (.int p1), some (.int p2), some (.ref p3), some (.ref p4), some (.int v2), some (.int v4), some (.ref a7), some (.int v14), some (.int v17), some (.int v20)]) (st' := [.int (v26 - v20), .ref a25]) bo_132_169_1ee6ed rfl ?_
          refine h_ck h (fun hc h => ?_)
          refine h_cV h (fun M27 e h => ?_)
          refine EV_call [.ref a25, .int (v26 - v20)] [] mx_132 li_132_172 rfl rfl si_10_298 rfl (by decide) (by decide) (by omega) ma_123 rfl (Nat.le_of_ble_eq_true rfl) rfl rfl (Nat.le_of_ble_eq_true rfl) (rc_1 mt_at_123 rfl rfl (by decide) hc) (e_la_note (by omega) a25 (v26 - v20) M23 _ e) ?_
          show EV d 132 175 [some (.ref p0), some (.int p1), some (.int p2), some (.ref p3), some (.ref p4), some (.int v2), some (.int v4), some (.ref a7), some (.int v14), some (.int v17), some (.int v20)] [] M27 _
          refine EV_forget (A := [none, none, none, some (.ref p3), some (.ref p4), none, none, none, some (.int v14), some (.int v17), some (.int v20)]) (lsub_of _ _ ⟨Or.inl rfl, ⟨Or.inl rfl, ⟨Or.inl rfl, ⟨Or.inr rfl, ⟨Or.inr rfl, ⟨Or.inl rfl, ⟨Or.inl rfl, ⟨Or.inl rfl, ⟨Or.inr rfl, ⟨Or.inr rfl, ⟨Or.inr rfl, trivial⟩⟩⟩⟩⟩⟩⟩⟩⟩⟩⟩) ?_
          exact e_sm_takeItem_175 hd p3 p4 v14 v17 v20 M27 r h
        · refine r_icT mx_132 li_132_158 (by decide) rfl hc ?_
          refine EV_forget (A := [none, none, none, some (.ref p3), some (.ref p4), none, none, none, some (.int v14), some (.int v17), some (.int v20)]) (lsub_of _ _ ⟨Or.inl rfl, ⟨Or.inl rfl, ⟨Or.inl rfl, ⟨Or.inr rfl, ⟨Or.inr rfl, ⟨Or.inl rfl, ⟨Or.inl rfl, ⟨Or.inl rfl, ⟨Or.inr rfl, ⟨Or.inr rfl, ⟨Or.inr rfl, trivial⟩⟩⟩⟩⟩⟩⟩⟩⟩⟩⟩) ?_
          exact e_sm_takeItem_175 hd p3 p4 v14 v17 v20 M23 r h
      · refine r_ifF mx_132 li_132_58 (by decide) hc ?_
        refine EV_stq mx_132 (pc' := 63) (L' := [some (.ref p0), some (.int p1), some (.int p2), some (.ref p3), some (.ref p4), some (.int v2), some (.int v4), some (.ref a7), none, none, none]) (st' := [.ref a7]) bo_132_61_769b30 rfl ?_
        refine h_ck h (fun hc h => ?_)
        refine h_cV h (fun M28 e h => ?_)
        refine EV_call [.ref a7] [] mx_132 li_132_63 rfl rfl si_10_288 rfl (by decide) (by decide) (by omega) ma_118 rfl (Nat.le_of_ble_eq_true rfl) rfl rfl (Nat.le_of_ble_eq_true rfl) (rc_1 mt_at_118 rfl rfl (by decide) hc) (e_ch_removeItem (by omega) a7 M10 _ e) ?_
        show EV d 132 66 [some (.ref p0), some (.int p1), some (.int p2), some (.ref p3), some (.ref p4), some (.int v2), some (.int v4), some (.ref a7), none, none, none] [] M28 _
        refine EV_stq mx_132 (pc' := 69) (L' := [some (.ref p0), some (.int p1), some (.int p2), some (.ref p3), some (.ref p4), some (.int v2), some (.int v4), some (.ref a7), none, none, none]) (st' := [.ref p4, .ref p4]) bo_132_66_17f18e rfl ?_
        refine r_gI mx_132 li_132_69 fd_10_215 ⟨by decide, by decide⟩ h (fun v29 h => ?_)
        refine EV_stq mx_132 (pc' := 77) (L' := [some (.ref p0), some (.int p1), some (.int p2), some (.ref p3), some (.ref p4), some (.int v2), some (.int v4), some (.ref a7), none, none, none]) (st' := [.int (v29 ||| ((1 : Int32) <<< (v4 &&& 31))), .ref p4]) bo_132_72_fb31a9 rfl ?_
        refine r_pI mx_132 li_132_77 fd_10_215 (Or.inl rfl) rfl h (fun M30 h => ?_)
        refine EV_stq mx_132 (pc' := 82) (L' := [some (.ref p0), some (.int p1), some (.int p2), some (.ref p3), some (.ref p4), some (.int v2), some (.int v4), some (.ref a7), none, none, none]) (st' := [.ref p4]) bo_132_80_1d0e60 rfl ?_
        refine r_gI mx_132 li_132_82 fd_10_215 ⟨by decide, by decide⟩ h (fun v31 h => ?_)
        refine EV_stq mx_132 (pc' := 91) (L' := [some (.ref p0), some (.int p1), some (.int p2), some (.ref p3), some (.ref p4), some (.int v2), some (.int v4), some (.ref a7), none, none, none]) (st' := [.int (((1 : Int32) <<< (v2 &&& 31)) - (1 : Int32)), .int v31]) bo_132_85_a9fbe4 rfl ?_
        refine h_ne h (fun h hc => ?_) (fun h hc => ?_)
        · refine r_icF mx_132 li_132_91 (by decide) hc ?_
          refine EV_stq mx_132 (pc' := 99) (L' := [some (.ref p0), some (.int p1), some (.int p2), some (.ref p3), some (.ref p4), some (.int v2), some (.int v4), some (.ref a7), none, none, none]) (st' := [.ref p4, .ref p3, .int p2, .ref p0]) bo_132_94_b9dca5 rfl ?_
          refine h_ck h (fun hc h => ?_)
          refine h_cV h (fun M32 e h => ?_)
          refine EV_call [.ref p0, .int p2, .ref p3, .ref p4] [] mx_132 li_132_99 rfl rfl si_10_291 rfl (by decide) (by decide) (by omega) ma_121 rfl (Nat.le_of_ble_eq_true rfl) rfl rfl (Nat.le_of_ble_eq_true rfl) (rc_1 mt_at_121 rfl rfl (by decide) hc) (e_sm_saveInstance (by omega) p0 p2 p3 p4 M30 _ e) ?_
          show EV d 132 102 [some (.ref p0), some (.int p1), some (.int p2), some (.ref p3), some (.ref p4), some (.int v2), some (.int v4), some (.ref a7), none, none, none] [] M32 _
          refine EV_stq mx_132 (pc' := 103) (L' := [some (.ref p0), some (.int p1), some (.int p2), some (.ref p3), some (.ref p4), some (.int v2), some (.int v4), some (.ref a7), none, none, none]) (st' := [.int (1 : Int32)]) bo_132_102_097908 rfl ?_
          obtain rfl := Option.some.inj h
          exact r_ret mx_132 li_132_103 rfl (ro_nar (t := .boolean) (by decide) rfl)
        · refine r_icT mx_132 li_132_91 (by decide) rfl hc ?_
          refine EV_stq mx_132 (pc' := 103) (L' := [some (.ref p0), some (.int p1), some (.int p2), some (.ref p3), some (.ref p4), some (.int v2), some (.int v4), some (.ref a7), none, none, none]) (st' := [.int (1 : Int32)]) bo_132_102_097908 rfl ?_
          obtain rfl := Option.some.inj h
          exact r_ret mx_132 li_132_103 rfl (ro_nar (t := .boolean) (by decide) rfl)
    · refine r_ifF mx_132 li_132_36 (by decide) hc ?_
      refine EV_stq mx_132 (pc' := 40) (L' := [some (.ref p0), some (.int p1), some (.int p2), some (.ref p3), some (.ref p4), some (.int v2), some (.int v4), some (.ref a7), none, none, none]) (st' := [.int (0 : Int32)]) bo_132_39_4dcc25 rfl ?_
      obtain rfl := Option.some.inj h
      exact r_ret mx_132 li_132_40 rfl (ro_nar (t := .boolean) (by decide) rfl)
theorem e_sm_work_100 {d : Nat} (hd : 4 ≤ d) (k33 : Nat → Int32 → Int32 → Nat → Nat → Int32 → Mem → Option (Mem)) (hk33 : ∀ l0 l1 l2 l3 l4 l5 M r, k33 l0 l1 l2 l3 l4 l5 M = some r → EV d 133 33 [some (.ref l0), some (.int l1), some (.int l2), some (.ref l3), some (.ref l4), some (.int l5), none] [] M (none, r)) (l0 : Nat) (l1 : Int32) (l2 : Int32) (l3 : Nat) (l4 : Nat) (l5 : Int32) (s0 : Int32) (M : Mem) (r : Mem) (h : f_sm_work_100 k33 l0 l1 l2 l3 l4 l5 s0 M = some r) : EV d 133 100 [some (.ref l0), some (.int l1), some (.int l2), some (.ref l3), some (.ref l4), some (.int l5), none] [.int s0] M (none, r) := by
  unfold f_sm_work_100 at h
  refine EV_stq mx_133 (pc' := 104) (L' := [some (.ref l0), some (.int l1), some (.int l2), some (.ref l3), some (.ref l4), some (.int l5), some (.int s0)]) (st' := [.int s0]) bo_133_100_9ad42e rfl ?_
  refine h_ne h (fun h hc => ?_) (fun h hc => ?_)
  · refine r_ifF mx_133 li_133_104 (by decide) hc ?_
    refine EV_stq mx_133 (pc' := 109) (L' := [some (.ref l0), some (.int l1), some (.int l2), some (.ref l3), some (.ref l4), some (.int l5), some (.int s0)]) (st' := [.ref l3, .ref l3]) bo_133_107_68dab3 rfl ?_
    refine r_gI mx_133 li_133_109 fd_10_244 ⟨by decide, by decide⟩ h (fun v1 h => ?_)
    refine EV_stq mx_133 (pc' := 114) (L' := [some (.ref l0), some (.int l1), some (.int l2), some (.ref l3), some (.ref l4), some (.int l5), some (.int s0)]) (st' := [.int (v1 + (1 : Int32)), .ref l3]) bo_133_112_dbfc8f rfl ?_
    refine r_pI mx_133 li_133_114 fd_10_244 (Or.inl rfl) rfl h (fun M2 h => ?_)
    obtain rfl := Option.some.inj h
    exact r_ret mx_133 li_133_117 rfl rfl
  · refine r_ifT mx_133 li_133_104 (by decide) rfl hc ?_
    refine EV_stq mx_133 (pc' := 33) (L' := [some (.ref l0), some (.int l1), some (.int l2), some (.ref l3), some (.ref l4), some (.int (l5 + (-1 : Int32))), some (.int s0)]) (st' := []) bo_133_118_6046f2 rfl ?_
    refine EV_forget (A := [some (.ref l0), some (.int l1), some (.int l2), some (.ref l3), some (.ref l4), some (.int (l5 + (-1 : Int32))), none]) (lsub_of _ _ ⟨Or.inr rfl, ⟨Or.inr rfl, ⟨Or.inr rfl, ⟨Or.inr rfl, ⟨Or.inr rfl, ⟨Or.inr rfl, ⟨Or.inl rfl, trivial⟩⟩⟩⟩⟩⟩⟩) ?_
    exact hk33 l0 l1 l2 l3 l4 (l5 + (-1 : Int32)) M r h
theorem e_sm_work_60 {d : Nat} (hd : 4 ≤ d) (l3 : Nat) (M : Mem) (r : Mem) (h : f_sm_work_60 l3 M = some r) : EV d 133 60 [none, none, none, some (.ref l3), none, none, none] [] M (none, r) := by
  unfold f_sm_work_60 at h
  refine EV_stq mx_133 (pc' := 62) (L' := [none, none, none, some (.ref l3), none, none, none]) (st' := [.ref l3, .ref l3]) bo_133_60_3e1655 rfl ?_
  refine r_gI mx_133 li_133_62 fd_10_233 ⟨by decide, by decide⟩ h (fun v1 h => ?_)
  refine EV_stq mx_133 (pc' := 67) (L' := [none, none, none, some (.ref l3), none, none, none]) (st' := [.int (v1 + (1 : Int32)), .ref l3]) bo_133_65_dc096c rfl ?_
  refine r_pI mx_133 li_133_67 fd_10_233 (Or.inl rfl) rfl h (fun M2 h => ?_)
  obtain rfl := Option.some.inj h
  exact r_ret mx_133 li_133_70 rfl rfl
theorem e_sm_work_33 {d : Nat} (hd : 4 ≤ d) : ∀ (n : Nat) (l0 : Nat) (l1 : Int32) (l2 : Int32) (l3 : Nat) (l4 : Nat) (l5 : Int32) (M : Mem) (r : Mem), f_sm_work_33 n l0 l1 l2 l3 l4 l5 M = some r → EV d 133 33 [some (.ref l0), some (.int l1), some (.int l2), some (.ref l3), some (.ref l4), some (.int l5), none] [] M (none, r) := by
  intro n
  induction n with
  | zero => intro l0 l1 l2 l3 l4 l5 M r h; cases h
  | succ n ih =>
    intro l0 l1 l2 l3 l4 l5 M r h
    unfold f_sm_work_33 at h
    refine EV_stq mx_133 (pc' := 35) (L' := [some (.ref l0), some (.int l1), some (.int l2), some (.ref l3), some (.ref l4), some (.int l5), none]) (st' := [.int l5]) bo_133_33_1dc721 rfl ?_
    refine h_lt h (fun h hc => ?_) (fun h hc => ?_)
    · refine r_ifT mx_133 li_133_35 (by decide) rfl hc ?_
      obtain rfl := Option.some.inj h
      exact r_ret mx_133 li_133_124 rfl rfl
    · refine r_ifF mx_133 li_133_35 (by decide) hc ?_
      refine EV_stq mx_133 (pc' := 43) (L' := [some (.ref l0), some (.int l1), some (.int l2), some (.ref l3), some (.ref l4), some (.int l5), none]) (st' := [.ref l4, .int l2, .int l1, .ref l0]) bo_133_38_883a8f rfl ?_
      refine h_ck h (fun hc h => ?_)
      refine h_cI h (fun v2 M1 e h => ?_)
      refine EV_call [.ref l0, .int l1, .int l2, .ref l4] [] mx_133 li_133_43 rfl rfl si_10_226 rfl (by decide) (by decide) (by omega) ma_109 rfl (Nat.le_of_ble_eq_true rfl) rfl rfl (Nat.le_of_ble_eq_true rfl) (rc_1 mt_at_109 rfl rfl (by decide) hc) (e_sm_sendList (by omega) l0 l1 l2 l4 M _ e) ?_
      show EV d 133 46 [some (.ref l0), some (.int l1), some (.int l2), some (.ref l3), some (.ref l4), some (.int l5), none] [.int v2] M1 _
      refine h_eq h (fun h hc => ?_) (fun h hc => ?_)
      · refine r_ifT mx_133 li_133_46 (by decide) rfl hc ?_
        refine EV_forget (A := [none, none, none, some (.ref l3), none, none, none]) (lsub_of _ _ ⟨Or.inl rfl, ⟨Or.inl rfl, ⟨Or.inl rfl, ⟨Or.inr rfl, ⟨Or.inl rfl, ⟨Or.inl rfl, ⟨Or.inl rfl, trivial⟩⟩⟩⟩⟩⟩⟩) ?_
        exact e_sm_work_60 hd l3 M1 r h
      · refine r_ifF mx_133 li_133_46 (by decide) hc ?_
        refine EV_stq mx_133 (pc' := 54) (L' := [some (.ref l0), some (.int l1), some (.int l2), some (.ref l3), some (.ref l4), some (.int l5), none]) (st' := [.ref l4, .int l2, .int l1, .ref l0]) bo_133_49_cb3907 rfl ?_
        refine h_ck h (fun hc h => ?_)
        refine h_cI h (fun v4 M3 e h => ?_)
        refine EV_call [.ref l0, .int l1, .int l2, .ref l4] [] mx_133 li_133_54 rfl rfl si_10_230 rfl (by decide) (by decide) (by omega) ma_113 rfl (Nat.le_of_ble_eq_true rfl) rfl rfl (Nat.le_of_ble_eq_true rfl) (rc_1 mt_at_113 rfl rfl (by decide) hc) (e_sm_sendBarrier (by omega) l0 l1 l2 l4 M1 _ e) ?_
        show EV d 133 57 [some (.ref l0), some (.int l1), some (.int l2), some (.ref l3), some (.ref l4), some (.int l5), none] [.int v4] M3 _
        refine h_ne h (fun h hc => ?_) (fun h hc => ?_)
        · refine r_ifF mx_133 li_133_57 (by decide) hc ?_
          refine EV_forget (A := [none, none, none, some (.ref l3), none, none, none]) (lsub_of _ _ ⟨Or.inl rfl, ⟨Or.inl rfl, ⟨Or.inl rfl, ⟨Or.inr rfl, ⟨Or.inl rfl, ⟨Or.inl rfl, ⟨Or.inl rfl, trivial⟩⟩⟩⟩⟩⟩⟩) ?_
          exact e_sm_work_60 hd l3 M3 r h
        · refine r_ifT mx_133 li_133_57 (by decide) rfl hc ?_
          refine EV_stq mx_133 (pc' := 73) (L' := [some (.ref l0), some (.int l1), some (.int l2), some (.ref l3), some (.ref l4), some (.int l5), none]) (st' := [.int l5]) bo_133_71_2ba9bf rfl ?_
          refine h_ne h (fun h hc => ?_) (fun h hc => ?_)
          · refine r_ifF mx_133 li_133_73 (by decide) hc ?_
            obtain rfl := Option.some.inj h
            exact r_ret mx_133 li_133_76 rfl rfl
          · refine r_ifT mx_133 li_133_73 (by decide) rfl hc ?_
            refine EV_stq mx_133 (pc' := 78) (L' := [some (.ref l0), some (.int l1), some (.int l2), some (.ref l3), some (.ref l4), some (.int l5), none]) (st' := [.int l1]) bo_133_77_9a98ff rfl ?_
            refine h_ne h (fun h hc => ?_) (fun h hc => ?_)
            · refine r_ifF mx_133 li_133_78 (by decide) hc ?_
              refine EV_stq mx_133 (pc' := 85) (L' := [some (.ref l0), some (.int l1), some (.int l2), some (.ref l3), some (.ref l4), some (.int l5), none]) (st' := [.ref l4, .ref l3, .ref l0]) bo_133_81_021ec7 rfl ?_
              refine h_ck h (fun hc h => ?_)
              refine h_cI h (fun v8 M7 e h => ?_)
              refine EV_call [.ref l0, .ref l3, .ref l4] [] mx_133 li_133_85 rfl rfl si_10_236 rfl (by decide) (by decide) (by omega) ma_114 rfl (Nat.le_of_ble_eq_true rfl) rfl rfl (Nat.le_of_ble_eq_true rfl) (rc_1 mt_at_114 rfl rfl (by decide) hc) (e_sm_takeInput (by omega) l0 l3 l4 M3 _ e) ?_
              show EV d 133 88 [some (.ref l0), some (.int l1), some (.int l2), some (.ref l3), some (.ref l4), some (.int l5), none] [.int v8] M7 _
              refine EV_stq mx_133 (pc' := 100) (L' := [some (.ref l0), some (.int l1), some (.int l2), some (.ref l3), some (.ref l4), some (.int l5), none]) (st' := [.int v8]) bo_133_88_92252f rfl ?_
              exact e_sm_work_100 hd _ ih l0 l1 l2 l3 l4 l5 v8 M7 r h
            · refine r_ifT mx_133 li_133_78 (by decide) rfl hc ?_
              refine EV_stq mx_133 (pc' := 97) (L' := [some (.ref l0), some (.int l1), some (.int l2), some (.ref l3), some (.ref l4), some (.int l5), none]) (st' := [.ref l4, .ref l3, .int l2, .int l1, .ref l0]) bo_133_91_9918a3 rfl ?_
              refine h_ck h (fun hc h => ?_)
              refine h_cI h (fun v6 M5 e h => ?_)
              refine EV_call [.ref l0, .int l1, .int l2, .ref l3, .ref l4] [] mx_133 li_133_97 rfl rfl si_10_240 rfl (by decide) (by decide) (by omega) ma_132 rfl (Nat.le_of_ble_eq_true rfl) rfl rfl (Nat.le_of_ble_eq_true rfl) (rc_1 mt_at_132 rfl rfl (by decide) hc) (e_sm_takeItem (by omega) l0 l1 l2 l3 l4 M3 _ e) ?_
              show EV d 133 100 [some (.ref l0), some (.int l1), some (.int l2), some (.ref l3), some (.ref l4), some (.int l5), none] [.int v6] M5 _
              exact e_sm_work_100 hd _ ih l0 l1 l2 l3 l4 l5 v6 M5 r h
theorem e_sm_work {d : Nat} (hd : 4 ≤ d) (p0 : Nat) (p1 : Int32) (p2 : Int32) (M : Mem) (r : Mem) (h : f_sm_work p0 p1 p2 M = some r) : EV d 133 0 (entL 7 [.ref p0, .int p1, .int p2]) [] M (none, r) := by
  show EV d 133 0 [some (.ref p0), some (.int p1), some (.int p2), none, none, none, none] [] M _
  unfold f_sm_work at h
  refine EV_stq mx_133 (pc' := 2) (L' := [some (.ref p0), some (.int p1), some (.int p2), none, none, none, none]) (st' := [.int p1, .ref p0]) bo_133_0_264884 rfl ?_
  refine h_ck h (fun hc h => ?_)
  refine h_cR h (fun o2 M1 e h => ?_)
  refine EV_call [.ref p0, .int p1] [] mx_133 li_133_2 rfl rfl si_10_54 rfl (by decide) (by decide) (by omega) ma_56 rfl (Nat.le_of_ble_eq_true rfl) rfl rfl (Nat.le_of_ble_eq_true rfl) (rc_1 mt_at_56 rfl rfl (by decide) hc) (e_sm_operatorAt (by omega) p0 p1 M _ e) ?_
  refine h_onR (G := fun o => EV d 133 5 [some (.ref p0), some (.int p1), some (.int p2), none, none, none, none] [rfv o] M1 _) h (fun h => ?_) (fun a3 h => ?_)
  · refine EV_stq mx_133 (pc' := 9) (L' := [some (.ref p0), some (.int p1), some (.int p2), some (.null), none, none, none]) (st' := [.int p2, .int p1, .ref p0]) bo_133_5_cc2bb6 rfl ?_
    refine h_ck h (fun hc h => ?_)
    refine h_cR h (fun o5 M4 e h => ?_)
    refine EV_call [.ref p0, .int p1, .int p2] [] mx_133 li_133_9 rfl rfl si_10_141 rfl (by decide) (by decide) (by omega) ma_91 rfl (Nat.le_of_ble_eq_true rfl) rfl rfl (Nat.le_of_ble_eq_true rfl) (rc_1 mt_at_91 rfl rfl (by decide) hc) (e_sm_instanceAt (by omega) p0 p1 p2 M1 _ e) ?_
    refine h_onR (G := fun o => EV d 133 12 [some (.ref p0), some (.int p1), some (.int p2), some (.null), none, none, none] [rfv o] M4 _) h (fun h => ?_) (fun a6 h => ?_)
    · refine EV_stq mx_133 (pc' := 23) (L' := [some (.ref p0), some (.int p1), some (.int p2), some (.null), some (.null), none, none]) (st' := []) bo_133_12_87d625 rfl ?_
      obtain rfl := Option.some.inj h
      exact r_ret mx_133 li_133_23 rfl rfl
    · refine EV_stq mx_133 (pc' := 23) (L' := [some (.ref p0), some (.int p1), some (.int p2), some (.null), some (.ref a6), none, none]) (st' := []) bo_133_12_87d625 rfl ?_
      obtain rfl := Option.some.inj h
      exact r_ret mx_133 li_133_23 rfl rfl
  · refine EV_stq mx_133 (pc' := 9) (L' := [some (.ref p0), some (.int p1), some (.int p2), some (.ref a3), none, none, none]) (st' := [.int p2, .int p1, .ref p0]) bo_133_5_cc2bb6 rfl ?_
    refine h_ck h (fun hc h => ?_)
    refine h_cR h (fun o8 M7 e h => ?_)
    refine EV_call [.ref p0, .int p1, .int p2] [] mx_133 li_133_9 rfl rfl si_10_141 rfl (by decide) (by decide) (by omega) ma_91 rfl (Nat.le_of_ble_eq_true rfl) rfl rfl (Nat.le_of_ble_eq_true rfl) (rc_1 mt_at_91 rfl rfl (by decide) hc) (e_sm_instanceAt (by omega) p0 p1 p2 M1 _ e) ?_
    refine h_onR (G := fun o => EV d 133 12 [some (.ref p0), some (.int p1), some (.int p2), some (.ref a3), none, none, none] [rfv o] M7 _) h (fun h => ?_) (fun a9 h => ?_)
    · refine EV_stq mx_133 (pc' := 23) (L' := [some (.ref p0), some (.int p1), some (.int p2), some (.ref a3), some (.null), none, none]) (st' := []) bo_133_12_efe1d9 rfl ?_
      obtain rfl := Option.some.inj h
      exact r_ret mx_133 li_133_23 rfl rfl
    · refine EV_stq mx_133 (pc' := 25) (L' := [some (.ref p0), some (.int p1), some (.int p2), some (.ref a3), some (.ref a9), none, none]) (st' := [.ref p0]) bo_133_12_d0c00c rfl ?_
      refine r_gA mx_133 li_133_25 fd_10_12 rfl h (fun a10 h => ?_)
      refine r_gI mx_133 li_133_28 fd_10_223 ⟨by decide, by decide⟩ h (fun v11 h => ?_)
      refine EV_stq mx_133 (pc' := 33) (L' := [some (.ref p0), some (.int p1), some (.int p2), some (.ref a3), some (.ref a9), some (.int v11), none]) (st' := []) bo_133_31_c379e3 rfl ?_
      exact e_sm_work_33 hd FU p0 p1 p2 a3 a9 v11 M7 r h
theorem e_op_completePending_49 {d : Nat} (hd : 2 ≤ d) (k13 : Nat → Int32 → Mem → Option (Mem)) (hk13 : ∀ l0 l1 M r, k13 l0 l1 M = some r → EV d 134 13 [some (.ref l0), some (.int l1), none] [] M (none, r)) (l0 : Nat) (l1 : Int32) (M : Mem) (r : Mem) (h : f_op_completePending_49 k13 l0 l1 M = some r) : EV d 134 49 [some (.ref l0), some (.int l1), none] [] M (none, r) := by
  unfold f_op_completePending_49 at h
  refine EV_stq mx_134 (pc' := 13) (L' := [some (.ref l0), some (.int (l1 + (1 : Int32))), none]) (st' := []) bo_134_49_32e12e rfl ?_
  exact hk13 l0 (l1 + (1 : Int32)) M r h
theorem e_op_completePending_13 {d : Nat} (hd : 2 ≤ d) : ∀ (n : Nat) (l0 : Nat) (l1 : Int32) (M : Mem) (r : Mem), f_op_completePending_13 n l0 l1 M = some r → EV d 134 13 [some (.ref l0), some (.int l1), none] [] M (none, r) := by
  intro n
  induction n with
  | zero => intro l0 l1 M r h; cases h
  | succ n ih =>
    intro l0 l1 M r h
    unfold f_op_completePending_13 at h
    refine EV_stq mx_134 (pc' := 15) (L' := [some (.ref l0), some (.int l1), none]) (st' := [.ref l0, .int l1]) bo_134_13_1f05a9 rfl ?_
    refine r_gI mx_134 li_134_15 fd_8_57 ⟨by decide, by decide⟩ h (fun v1 h => ?_)
    refine h_ge h (fun h hc => ?_) (fun h hc => ?_)
    · refine r_icT mx_134 li_134_18 (by decide) rfl hc ?_
      obtain rfl := Option.some.inj h
      exact r_ret mx_134 li_134_55 rfl rfl
    · refine r_icF mx_134 li_134_18 (by decide) hc ?_
      refine EV_stq mx_134 (pc' := 23) (L' := [some (.ref l0), some (.int l1), none]) (st' := [.ref l0, .int l1]) bo_134_21_13696e rfl ?_
      refine r_gA mx_134 li_134_23 fd_8_11 rfl h (fun a2 h => ?_)
      refine r_aN mx_134 li_134_26 h (fun v3 h => ?_)
      refine h_ge h (fun h hc => ?_) (fun h hc => ?_)
      · refine r_icT mx_134 li_134_27 (by decide) rfl hc ?_
        obtain rfl := Option.some.inj h
        exact r_ret mx_134 li_134_55 rfl rfl
      · refine r_icF mx_134 li_134_27 (by decide) hc ?_
        refine EV_stq mx_134 (pc' := 31) (L' := [some (.ref l0), some (.int l1), none]) (st' := [.ref l0]) bo_134_30_0b4e4a rfl ?_
        refine r_gA mx_134 li_134_31 fd_8_11 rfl h (fun a4 h => ?_)
        refine EV_stq mx_134 (pc' := 35) (L' := [some (.ref l0), some (.int l1), none]) (st' := [.int l1, .ref a4]) bo_134_34_130638 rfl ?_
        refine r_aA mx_134 li_134_35 h (fun a5 h => ?_)
        refine EV_stq mx_134 (pc' := 43) (L' := [some (.ref l0), some (.int l1), some (.ref a5)]) (st' := [.ref a5, .ref a5]) bo_134_36_4ec923 rfl ?_
        refine r_gI mx_134 li_134_43 fd_8_98 ⟨by decide, by decide⟩ h (fun v6 h => ?_)
        refine r_pI mx_134 li_134_46 fd_8_101 (Or.inl rfl) rfl h (fun M7 h => ?_)
        refine EV_forget (A := [some (.ref l0), some (.int l1), none]) (lsub_of _ _ ⟨Or.inr rfl, ⟨Or.inr rfl, ⟨Or.inl rfl, trivial⟩⟩⟩) ?_
        exact e_op_completePending_49 hd _ ih l0 l1 M7 r h
theorem e_op_completePending {d : Nat} (hd : 2 ≤ d) (p0 : Nat) (M : Mem) (r : Mem) (h : f_op_completePending p0 M = some r) : EV d 134 0 (entL 3 [.ref p0]) [] M (none, r) := by
  show EV d 134 0 [some (.ref p0), none, none] [] M _
  unfold f_op_completePending at h
  refine EV_stq mx_134 (pc' := 1) (L' := [some (.ref p0), none, none]) (st' := [.ref p0]) bo_134_0_8d5162 rfl ?_
  refine r_gA mx_134 li_134_1 fd_8_27 rfl h (fun a1 h => ?_)
  refine EV_stq mx_134 (pc' := 5) (L' := [some (.ref p0), none, none]) (st' := [.ref p0, .ref a1]) bo_134_4_e962e2 rfl ?_
  refine r_gA mx_134 li_134_5 fd_8_24 rfl h (fun a2 h => ?_)
  refine h_ck h (fun hc h => ?_)
  refine h_cV h (fun M3 e h => ?_)
  refine EV_call [.ref a1, .ref a2] [] mx_134 li_134_8 rfl rfl si_8_87 rfl (by decide) (by decide) (by omega) ma_65 rfl (Nat.le_of_ble_eq_true rfl) rfl rfl (Nat.le_of_ble_eq_true rfl) (rc_1 mt_at_65 rfl rfl (by decide) hc) (e_ky_copyAll (by omega) a1 a2 M _ e) ?_
  show EV d 134 11 [some (.ref p0), none, none] [] M3 _
  refine EV_stq mx_134 (pc' := 13) (L' := [some (.ref p0), some (.int (0 : Int32)), none]) (st' := []) bo_134_11_274bbd rfl ?_
  exact e_op_completePending_13 hd FU p0 (0 : Int32) M3 r h
theorem e_sm_completeCheckpoint_47 {d : Nat} (hd : 3 ≤ d) (k23 : Nat → Int32 → Mem → Option (Mem)) (hk23 : ∀ l0 l1 M r, k23 l0 l1 M = some r → EV d 135 23 [some (.ref l0), some (.int l1), none] [] M (none, r)) (l0 : Nat) (l1 : Int32) (M : Mem) (r : Mem) (h : f_sm_completeCheckpoint_47 k23 l0 l1 M = some r) : EV d 135 47 [some (.ref l0), some (.int l1), none] [] M (none, r) := by
  unfold f_sm_completeCheckpoint_47 at h
  refine EV_stq mx_135 (pc' := 23) (L' := [some (.ref l0), some (.int (l1 + (1 : Int32))), none]) (st' := []) bo_135_47_e6a0ca rfl ?_
  exact hk23 l0 (l1 + (1 : Int32)) M r h
theorem e_sm_completeCheckpoint_23 {d : Nat} (hd : 3 ≤ d) : ∀ (n : Nat) (l0 : Nat) (l1 : Int32) (M : Mem) (r : Mem), f_sm_completeCheckpoint_23 n l0 l1 M = some r → EV d 135 23 [some (.ref l0), some (.int l1), none] [] M (none, r) := by
  intro n
  induction n with
  | zero => intro l0 l1 M r h; cases h
  | succ n ih =>
    intro l0 l1 M r h
    unfold f_sm_completeCheckpoint_23 at h
    refine EV_stq mx_135 (pc' := 25) (L' := [some (.ref l0), some (.int l1), none]) (st' := [.ref l0, .int l1]) bo_135_23_31ad6f rfl ?_
    refine r_gI mx_135 li_135_25 fd_10_50 ⟨by decide, by decide⟩ h (fun v1 h => ?_)
    refine EV_stq mx_135 (pc' := 30) (L' := [some (.ref l0), some (.int l1), none]) (st' := [.int (v1 + (1 : Int32)), .int l1]) bo_135_28_533662 rfl ?_
    refine h_gt h (fun h hc => ?_) (fun h hc => ?_)
    · refine r_icT mx_135 li_135_30 (by decide) rfl hc ?_
      obtain rfl := Option.some.inj h
      exact r_ret mx_135 li_135_53 rfl rfl
    · refine r_icF mx_135 li_135_30 (by decide) hc ?_
      refine EV_stq mx_135 (pc' := 35) (L' := [some (.ref l0), some (.int l1), none]) (st' := [.int l1, .ref l0]) bo_135_33_9ed66c rfl ?_
      refine h_ck h (fun hc h => ?_)
      refine h_cR h (fun o3 M2 e h => ?_)
      refine EV_call [.ref l0, .int l1] [] mx_135 li_135_35 rfl rfl si_10_54 rfl (by decide) (by decide) (by omega) ma_56 rfl (Nat.le_of_ble_eq_true rfl) rfl rfl (Nat.le_of_ble_eq_true rfl) (rc_1 mt_at_56 rfl rfl (by decide) hc) (e_sm_operatorAt (by omega) l0 l1 M _ e) ?_
      refine h_onR (G := fun o => EV d 135 38 [some (.ref l0), some (.int l1), none] [rfv o] M2 _) h (fun h => ?_) (fun a4 h => ?_)
      · refine EV_stq mx_135 (pc' := 47) (L' := [some (.ref l0), some (.int l1), some (.null)]) (st' := []) bo_135_38_bdbae6 rfl ?_
        refine EV_forget (A := [some (.ref l0), some (.int l1), none]) (lsub_of _ _ ⟨Or.inr rfl, ⟨Or.inr rfl, ⟨Or.inl rfl, trivial⟩⟩⟩) ?_
        exact e_sm_completeCheckpoint_47 hd _ ih l0 l1 M2 r h
      · refine EV_stq mx_135 (pc' := 44) (L' := [some (.ref l0), some (.int l1), some (.ref a4)]) (st' := [.ref a4]) bo_135_38_7730ed rfl ?_
        refine h_ck h (fun hc h => ?_)
        refine h_cV h (fun M5 e h => ?_)
        refine EV_call [.ref a4] [] mx_135 li_135_44 rfl rfl si_10_308 rfl (by decide) (by decide) (by omega) ma_134 rfl (Nat.le_of_ble_eq_true rfl) rfl rfl (Nat.le_of_ble_eq_true rfl) (rc_1 mt_at_134 rfl rfl (by decide) hc) (e_op_completePending (by omega) a4 M2 _ e) ?_
        show EV d 135 47 [some (.ref l0), some (.int l1), some (.ref a4)] [] M5 _
        refine EV_forget (A := [some (.ref l0), some (.int l1), none]) (lsub_of _ _ ⟨Or.inr rfl, ⟨Or.inr rfl, ⟨Or.inl rfl, trivial⟩⟩⟩) ?_
        exact e_sm_completeCheckpoint_47 hd _ ih l0 l1 M5 r h
theorem e_sm_completeCheckpoint {d : Nat} (hd : 3 ≤ d) (p0 : Nat) (M : Mem) (r : Mem) (h : f_sm_completeCheckpoint p0 M = some r) : EV d 135 0 (entL 3 [.ref p0]) [] M (none, r) := by
  show EV d 135 0 [some (.ref p0), none, none] [] M _
  unfold f_sm_completeCheckpoint at h
  refine EV_stq mx_135 (pc' := 2) (L' := [some (.ref p0), none, none]) (st' := [.ref p0, .ref p0]) bo_135_0_264884 rfl ?_
  refine r_gI mx_135 li_135_2 fd_10_126 ⟨by decide, by decide⟩ h (fun v1 h => ?_)
  refine r_pI mx_135 li_135_5 fd_10_100 (Or.inl rfl) rfl h (fun M2 h => ?_)
  refine EV_stq mx_135 (pc' := 10) (L' := [some (.ref p0), none, none]) (st' := [.int (0 : Int32), .ref p0]) bo_135_8_0adad6 rfl ?_
  refine r_pI mx_135 li_135_10 fd_10_126 (Or.inl rfl) rfl h (fun M3 h => ?_)
  refine EV_stq mx_135 (pc' := 15) (L' := [some (.ref p0), none, none]) (st' := [.ref p0, .ref p0]) bo_135_13_1f05a9 rfl ?_
  refine r_gI mx_135 li_135_15 fd_10_138 ⟨by decide, by decide⟩ h (fun v4 h => ?_)
  refine r_pI mx_135 li_135_18 fd_10_97 (Or.inl rfl) rfl h (fun M5 h => ?_)
  refine EV_stq mx_135 (pc' := 23) (L' := [some (.ref p0), some (.int (0 : Int32)), none]) (st' := []) bo_135_21_13696e rfl ?_
  exact e_sm_completeCheckpoint_23 hd FU p0 (0 : Int32) M5 r h
theorem e_sm_performTick_35 {d : Nat} (hd : 5 ≤ d) (k15 : Nat → Nat → Int32 → Int32 → Mem → Option (Mem)) (hk15 : ∀ l0 l1 l2 l3 M r, k15 l0 l1 l2 l3 M = some r → EV d 136 15 [some (.ref l0), some (.ref l1), some (.int l2), some (.int l3), none] [] M (none, r)) (l0 : Nat) (l1 : Nat) (l2 : Int32) (l3 : Int32) (M : Mem) (r : Mem) (h : f_sm_performTick_35 k15 l0 l1 l2 l3 M = some r) : EV d 136 35 [some (.ref l0), some (.ref l1), some (.int l2), some (.int l3), none] [] M (none, r) := by
  unfold f_sm_performTick_35 at h
  refine EV_stq mx_136 (pc' := 15) (L' := [some (.ref l0), some (.ref l1), some (.int l2), some (.int (l3 + (1 : Int32))), none]) (st' := []) bo_136_35_031a71 rfl ?_
  exact hk15 l0 l1 l2 (l3 + (1 : Int32)) M r h
theorem e_sm_performTick_54 {d : Nat} (hd : 5 ≤ d) (k48 : Nat → Int32 → Mem → Option (Mem)) (hk48 : ∀ l0 l1 M r, k48 l0 l1 M = some r → EV d 136 48 [some (.ref l0), some (.int l1), none, none, none] [] M (none, r)) : ∀ (n : Nat) (l0 : Nat) (l1 : Int32) (l2 : Int32) (M : Mem) (r : Mem), f_sm_performTick_54 k48 n l0 l1 l2 M = some r → EV d 136 54 [some (.ref l0), some (.int l1), some (.int l2), none, none] [] M (none, r) := by
  intro n
  induction n with
  | zero => intro l0 l1 l2 M r h; cases h
  | succ n ih =>
    intro l0 l1 l2 M r h
    unfold f_sm_performTick_54 at h
    refine EV_stq mx_136 (pc' := 57) (L' := [some (.ref l0), some (.int l1), some (.int l2), none, none]) (st' := [.int l1, .ref l0, .int l2]) bo_136_54_aa1375 rfl ?_
    refine h_ck h (fun hc h => ?_)
    refine h_cI h (fun v2 M1 e h => ?_)
    refine EV_call [.ref l0, .int l1] [.int l2] mx_136 li_136_57 rfl rfl si_10_129 rfl (by decide) (by decide) (by omega) ma_90 rfl (Nat.le_of_ble_eq_true rfl) rfl rfl (Nat.le_of_ble_eq_true rfl) (rc_1 mt_at_90 rfl rfl (by decide) hc) (e_sm_sizeOf (by omega) l0 l1 M _ e) ?_
    show EV d 136 60 [some (.ref l0), some (.int l1), some (.int l2), none, none] [.int v2, .int l2] M1 _
    refine h_ge h (fun h hc => ?_) (fun h hc => ?_)
    · refine r_icT mx_136 li_136_60 (by decide) rfl hc ?_
      refine EV_stq mx_136 (pc' := 48) (L' := [some (.ref l0), some (.int (l1 + (-1 : Int32))), some (.int l2), none, none]) (st' := []) bo_136_75_4932fc rfl ?_
      refine EV_forget (A := [some (.ref l0), some (.int (l1 + (-1 : Int32))), none, none, none]) (lsub_of _ _ ⟨Or.inr rfl, ⟨Or.inr rfl, ⟨Or.inl rfl, ⟨Or.inl rfl, ⟨Or.inl rfl, trivial⟩⟩⟩⟩⟩) ?_
      exact hk48 l0 (l1 + (-1 : Int32)) M1 r h
    · refine r_icF mx_136 li_136_60 (by decide) hc ?_
      refine EV_stq mx_136 (pc' := 66) (L' := [some (.ref l0), some (.int l1), some (.int l2), none, none]) (st' := [.int l2, .int l1, .ref l0]) bo_136_63_f9b671 rfl ?_
      refine h_ck h (fun hc h => ?_)
      refine h_cV h (fun M3 e h => ?_)
      refine EV_call [.ref l0, .int l1, .int l2] [] mx_136 li_136_66 rfl rfl si_10_183 rfl (by decide) (by decide) (by omega) ma_133 rfl (Nat.le_of_ble_eq_true rfl) rfl rfl (Nat.le_of_ble_eq_true rfl) (rc_1 mt_at_133 rfl rfl (by decide) hc) (e_sm_work (by omega) l0 l1 l2 M1 _ e) ?_
      show EV d 136 69 [some (.ref l0), some (.int l1), some (.int l2), none, none] [] M3 _
      refine EV_stq mx_136 (pc' := 54) (L' := [some (.ref l0), some (.int l1), some (.int (l2 + (1 : Int32))), none, none]) (st' := []) bo_136_69_2cd99d rfl ?_
      exact ih l0 l1 (l2 + (1 : Int32)) M3 r h
theorem e_sm_performTick_99 {d : Nat} (hd : 5 ≤ d) (l0 : Nat) (M : Mem) (r : Mem) (h : f_sm_performTick_99 l0 M = some r) : EV d 136 99 [some (.ref l0), none, none, none, none] [] M (none, r) := by
  unfold f_sm_performTick_99 at h
  refine EV_stq mx_136 (pc' := 101) (L' := [some (.ref l0), none, none, none, none]) (st' := [.ref l0, .ref l0]) bo_136_99_aace6c rfl ?_
  refine r_gI mx_136 li_136_101 fd_10_103 ⟨by decide, by decide⟩ h (fun v1 h => ?_)
  refine EV_stq mx_136 (pc' := 106) (L' := [some (.ref l0), none, none, none, none]) (st' := [.int (v1 + (1 : Int32)), .ref l0]) bo_136_104_df8874 rfl ?_
  refine r_pI mx_136 li_136_106 fd_10_103 (Or.inl rfl) rfl h (fun M2 h => ?_)
  obtain rfl := Option.some.inj h
  exact r_ret mx_136 li_136_109 rfl rfl
theorem e_sm_performTick_48 {d : Nat} (hd : 5 ≤ d) : ∀ (n : Nat) (l0 : Nat) (l1 : Int32) (M : Mem) (r : Mem), f_sm_performTick_48 n l0 l1 M = some r → EV d 136 48 [some (.ref l0), some (.int l1), none, none, none] [] M (none, r) := by
  intro n
  induction n with
  | zero => intro l0 l1 M r h; cases h
  | succ n ih =>
    intro l0 l1 M r h
    unfold f_sm_performTick_48 at h
    refine EV_stq mx_136 (pc' := 49) (L' := [some (.ref l0), some (.int l1), none, none, none]) (st' := [.int l1]) bo_136_48_04c55a rfl ?_
    refine h_lt h (fun h hc => ?_) (fun h hc => ?_)
    · refine r_ifT mx_136 li_136_49 (by decide) rfl hc ?_
      refine EV_stq mx_136 (pc' := 82) (L' := [some (.ref l0), some (.int l1), none, none, none]) (st' := [.ref l0]) bo_136_81_6cfd26 rfl ?_
      refine r_gI mx_136 li_136_82 fd_10_126 ⟨by decide, by decide⟩ h (fun v1 h => ?_)
      refine h_eq h (fun h hc => ?_) (fun h hc => ?_)
      · refine r_ifT mx_136 li_136_85 (by decide) rfl hc ?_
        refine EV_forget (A := [some (.ref l0), none, none, none, none]) (lsub_of _ _ ⟨Or.inr rfl, ⟨Or.inl rfl, ⟨Or.inl rfl, ⟨Or.inl rfl, ⟨Or.inl rfl, trivial⟩⟩⟩⟩⟩) ?_
        exact e_sm_performTick_99 hd l0 M r h
      · refine r_ifF mx_136 li_136_85 (by decide) hc ?_
        refine EV_stq mx_136 (pc' := 89) (L' := [some (.ref l0), some (.int l1), none, none, none]) (st' := [.ref l0]) bo_136_88_92252f rfl ?_
        refine r_gI mx_136 li_136_89 fd_10_132 ⟨by decide, by decide⟩ h (fun v2 h => ?_)
        refine h_ne h (fun h hc => ?_) (fun h hc => ?_)
        · refine r_ifF mx_136 li_136_92 (by decide) hc ?_
          refine EV_stq mx_136 (pc' := 96) (L' := [some (.ref l0), some (.int l1), none, none, none]) (st' := [.ref l0]) bo_136_95_076086 rfl ?_
          refine h_ck h (fun hc h => ?_)
          refine h_cV h (fun M3 e h => ?_)
          refine EV_call [.ref l0] [] mx_136 li_136_96 rfl rfl si_10_187 rfl (by decide) (by decide) (by omega) ma_135 rfl (Nat.le_of_ble_eq_true rfl) rfl rfl (Nat.le_of_ble_eq_true rfl) (rc_1 mt_at_135 rfl rfl (by decide) hc) (e_sm_completeCheckpoint (by omega) l0 M _ e) ?_
          show EV d 136 99 [some (.ref l0), some (.int l1), none, none, none] [] M3 _
          refine EV_forget (A := [some (.ref l0), none, none, none, none]) (lsub_of _ _ ⟨Or.inr rfl, ⟨Or.inl rfl, ⟨Or.inl rfl, ⟨Or.inl rfl, ⟨Or.inl rfl, trivial⟩⟩⟩⟩⟩) ?_
          exact e_sm_performTick_99 hd l0 M3 r h
        · refine r_ifT mx_136 li_136_92 (by decide) rfl hc ?_
          refine EV_forget (A := [some (.ref l0), none, none, none, none]) (lsub_of _ _ ⟨Or.inr rfl, ⟨Or.inl rfl, ⟨Or.inl rfl, ⟨Or.inl rfl, ⟨Or.inl rfl, trivial⟩⟩⟩⟩⟩) ?_
          exact e_sm_performTick_99 hd l0 M r h
    · refine r_ifF mx_136 li_136_49 (by decide) hc ?_
      refine EV_stq mx_136 (pc' := 54) (L' := [some (.ref l0), some (.int l1), some (.int (0 : Int32)), none, none]) (st' := []) bo_136_52_9f6391 rfl ?_
      exact e_sm_performTick_54 hd _ ih FU l0 l1 (0 : Int32) M r h
theorem e_sm_performTick_15 {d : Nat} (hd : 5 ≤ d) : ∀ (n : Nat) (l0 : Nat) (l1 : Nat) (l2 : Int32) (l3 : Int32) (M : Mem) (r : Mem), f_sm_performTick_15 n l0 l1 l2 l3 M = some r → EV d 136 15 [some (.ref l0), some (.ref l1), some (.int l2), some (.int l3), none] [] M (none, r) := by
  intro n
  induction n with
  | zero => intro l0 l1 l2 l3 M r h; cases h
  | succ n ih =>
    intro l0 l1 l2 l3 M r h
    unfold f_sm_performTick_15 at h
    refine EV_stq mx_136 (pc' := 17) (L' := [some (.ref l0), some (.ref l1), some (.int l2), some (.int l3), none]) (st' := [.int l2, .int l3]) bo_136_15_d45c32 rfl ?_
    refine h_ge h (fun h hc => ?_) (fun h hc => ?_)
    · refine r_icT mx_136 li_136_17 (by decide) rfl hc ?_
      refine EV_stq mx_136 (pc' := 42) (L' := [some (.ref l0), some (.ref l1), some (.int l2), some (.int l3), none]) (st' := [.ref l0]) bo_136_41_45abaf rfl ?_
      refine r_gI mx_136 li_136_42 fd_10_50 ⟨by decide, by decide⟩ h (fun v1 h => ?_)
      refine EV_stq mx_136 (pc' := 48) (L' := [some (.ref l0), some (.int (v1 + (1 : Int32))), some (.int l2), some (.int l3), none]) (st' := []) bo_136_45_27c2e9 rfl ?_
      refine EV_forget (A := [some (.ref l0), some (.int (v1 + (1 : Int32))), none, none, none]) (lsub_of _ _ ⟨Or.inr rfl, ⟨Or.inr rfl, ⟨Or.inl rfl, ⟨Or.inl rfl, ⟨Or.inl rfl, trivial⟩⟩⟩⟩⟩) ?_
      exact e_sm_performTick_48 hd FU l0 (v1 + (1 : Int32)) M r h
    · refine r_icF mx_136 li_136_17 (by decide) hc ?_
      refine EV_stq mx_136 (pc' := 22) (L' := [some (.ref l0), some (.ref l1), some (.int l2), some (.int l3), none]) (st' := [.int l3, .ref l1]) bo_136_20_aa2fda rfl ?_
      refine r_aA mx_136 li_136_22 h (fun a2 h => ?_)
      refine EV_stq mx_136 (pc' := 32) (L' := [some (.ref l0), some (.ref l1), some (.int l2), some (.int l3), some (.ref a2)]) (st' := [.ref a2]) bo_136_23_cbbb6b rfl ?_
      refine h_ck h (fun hc h => ?_)
      refine h_cV h (fun M3 e h => ?_)
      refine EV_call [.ref a2] [] mx_136 li_136_32 rfl rfl si_10_180 rfl (by decide) (by decide) (by omega) ma_97 rfl (Nat.le_of_ble_eq_true rfl) rfl rfl (Nat.le_of_ble_eq_true rfl) (rc_1 mt_at_97 rfl rfl (by decide) hc) (e_ch_growOlder (by omega) a2 M _ e) ?_
      show EV d 136 35 [some (.ref l0), some (.ref l1), some (.int l2), some (.int l3), some (.ref a2)] [] M3 _
      refine EV_forget (A := [some (.ref l0), some (.ref l1), some (.int l2), some (.int l3), none]) (lsub_of _ _ ⟨Or.inr rfl, ⟨Or.inr rfl, ⟨Or.inr rfl, ⟨Or.inr rfl, ⟨Or.inl rfl, trivial⟩⟩⟩⟩⟩) ?_
      exact e_sm_performTick_35 hd _ ih l0 l1 l2 l3 M3 r h
theorem e_sm_performTick {d : Nat} (hd : 5 ≤ d) (p0 : Nat) (M : Mem) (r : Mem) (h : f_sm_performTick p0 M = some r) : EV d 136 0 (entL 5 [.ref p0]) [] M (none, r) := by
  show EV d 136 0 [some (.ref p0), none, none, none, none] [] M _
  unfold f_sm_performTick at h
  refine EV_stq mx_136 (pc' := 2) (L' := [some (.ref p0), none, none, none, none]) (st' := [.int (1 : Int32), .ref p0]) bo_136_0_264884 rfl ?_
  refine r_pZ mx_136 li_136_2 fd_10_106 (Or.inl rfl) rfl h (fun M1 h => ?_)
  refine EV_stq mx_136 (pc' := 6) (L' := [some (.ref p0), none, none, none, none]) (st' := [.ref p0]) bo_136_5_7b98d2 rfl ?_
  refine r_gA mx_136 li_136_6 fd_10_35 rfl h (fun a2 h => ?_)
  refine EV_stq mx_136 (pc' := 11) (L' := [some (.ref p0), some (.ref a2), none, none, none]) (st' := [.ref a2]) bo_136_9_16efa2 rfl ?_
  refine r_aN mx_136 li_136_11 h (fun v3 h => ?_)
  refine EV_stq mx_136 (pc' := 15) (L' := [some (.ref p0), some (.ref a2), some (.int v3), some (.int (0 : Int32)), none]) (st' := []) bo_136_12_76c768 rfl ?_
  exact e_sm_performTick_15 hd FU p0 a2 v3 (0 : Int32) M1 r h
theorem e_x_tick_17 {d : Nat} (hd : 6 ≤ d) : ∀ (n : Nat) (l0 : Nat) (l1 : Int32) (l2 : Int32) (M : Mem) (r : Int32 × Mem), f_x_tick_17 n l0 l1 l2 M = some r → EV d 137 17 [some (.ref l0), some (.int l1), some (.int l2)] [] M (some (.int r.1), r.2) := by
  intro n
  induction n with
  | zero => intro l0 l1 l2 M r h; cases h
  | succ n ih =>
    intro l0 l1 l2 M r h
    unfold f_x_tick_17 at h
    refine EV_stq mx_137 (pc' := 19) (L' := [some (.ref l0), some (.int l1), some (.int l2)]) (st' := [.int l1, .int l2]) bo_137_17_03196b rfl ?_
    refine h_ge h (fun h hc => ?_) (fun h hc => ?_)
    · refine r_icT mx_137 li_137_19 (by decide) rfl hc ?_
      refine EV_stq mx_137 (pc' := 48) (L' := [some (.ref l0), some (.int l1), some (.int l2)]) (st' := [.int l1]) bo_137_47_d7fa8e rfl ?_
      obtain rfl := Option.some.inj h
      exact r_ret mx_137 li_137_48 rfl ro_int
    · refine r_icF mx_137 li_137_19 (by decide) hc ?_
      refine EV_stq mx_137 (pc' := 23) (L' := [some (.ref l0), some (.int l1), some (.int l2)]) (st' := [.ref l0]) bo_137_22_60ac31 rfl ?_
      refine r_gA mx_137 li_137_23 fd_13_31 rfl h (fun a1 h => ?_)
      refine h_ck h (fun hc h => ?_)
      refine h_cI h (fun v3 M2 e h => ?_)
      refine EV_call [.ref a1] [] mx_137 li_137_26 rfl rfl si_13_114 rfl (by decide) (by decide) (by omega) ma_93 rfl (Nat.le_of_ble_eq_true rfl) rfl rfl (Nat.le_of_ble_eq_true rfl) (rc_1 mt_at_93 rfl rfl (by decide) hc) (e_sm_quiet (by omega) a1 M _ e) ?_
      show EV d 137 29 [some (.ref l0), some (.int l1), some (.int l2)] [.int v3] M2 _
      refine h_eq h (fun h hc => ?_) (fun h hc => ?_)
      · refine r_ifT mx_137 li_137_29 (by decide) rfl hc ?_
        refine EV_stq mx_137 (pc' := 35) (L' := [some (.ref l0), some (.int l1), some (.int l2)]) (st' := [.ref l0]) bo_137_34_130638 rfl ?_
        refine r_gA mx_137 li_137_35 fd_13_31 rfl h (fun a4 h => ?_)
        refine h_ck h (fun hc h => ?_)
        refine h_cV h (fun M5 e h => ?_)
        refine EV_call [.ref a4] [] mx_137 li_137_38 rfl rfl si_13_117 rfl (by decide) (by decide) (by omega) ma_136 rfl (Nat.le_of_ble_eq_true rfl) rfl rfl (Nat.le_of_ble_eq_true rfl) (rc_1 mt_at_136 rfl rfl (by decide) hc) (e_sm_performTick (by omega) a4 M2 _ e) ?_
        show EV d 137 41 [some (.ref l0), some (.int l1), some (.int l2)] [] M5 _
        refine EV_stq mx_137 (pc' := 17) (L' := [some (.ref l0), some (.int l1), some (.int (l2 + (1 : Int32)))]) (st' := []) bo_137_41_8598b5 rfl ?_
        exact ih l0 l1 (l2 + (1 : Int32)) M5 r h
      · refine r_ifF mx_137 li_137_29 (by decide) hc ?_
        refine EV_stq mx_137 (pc' := 33) (L' := [some (.ref l0), some (.int l1), some (.int l2)]) (st' := [.int l2]) bo_137_32_191034 rfl ?_
        obtain rfl := Option.some.inj h
        exact r_ret mx_137 li_137_33 rfl ro_int
theorem e_x_tick {d : Nat} (hd : 6 ≤ d) (p0 : Nat) (p1 : Int32) (M : Mem) (r : Int32 × Mem) (h : f_x_tick p0 p1 M = some r) : EV d 137 0 (entL 3 [.ref p0, .int p1]) [] M (some (.int r.1), r.2) := by
  show EV d 137 0 [some (.ref p0), some (.int p1), none] [] M _
  unfold f_x_tick at h
  refine EV_stq mx_137 (pc' := 2) (L' := [some (.ref p0), some (.int p1), none]) (st' := [.int (1 : Int32), .int p1]) bo_137_0_264884 rfl ?_
  refine h_lt h (fun h hc => ?_) (fun h hc => ?_)
  · refine r_icT mx_137 li_137_2 (by decide) rfl hc ?_
    refine EV_stq mx_137 (pc' := 14) (L' := [some (.ref p0), some (.int p1), none]) (st' := [.int (-1000000002 : Int32)]) bo_137_12_d0d0c9 rfl ?_
    obtain rfl := Option.some.inj h
    exact r_ret mx_137 li_137_14 rfl ro_int
  · refine r_icF mx_137 li_137_2 (by decide) hc ?_
    refine EV_stq mx_137 (pc' := 9) (L' := [some (.ref p0), some (.int p1), none]) (st' := [.int (200 : Int32), .int p1]) bo_137_5_ca77c4 rfl ?_
    refine h_le h (fun h hc => ?_) (fun h hc => ?_)
    · refine r_icT mx_137 li_137_9 (by decide) rfl hc ?_
      refine EV_stq mx_137 (pc' := 17) (L' := [some (.ref p0), some (.int p1), some (.int (0 : Int32))]) (st' := []) bo_137_15_d45c32 rfl ?_
      exact e_x_tick_17 hd FU p0 p1 (0 : Int32) M r h
    · refine r_icF mx_137 li_137_9 (by decide) hc ?_
      refine EV_stq mx_137 (pc' := 14) (L' := [some (.ref p0), some (.int p1), none]) (st' := [.int (-1000000002 : Int32)]) bo_137_12_d0d0c9 rfl ?_
      obtain rfl := Option.some.inj h
      exact r_ret mx_137 li_137_14 rfl ro_int
theorem e_m_quiet_47 {d : Nat} (hd : 0 ≤ d) : ∀ (n : Nat) (l0 : Nat) (l1 : Int32) (M : Mem) (r : Int32 × Mem), f_m_quiet_47 n l0 l1 M = some r → EV d 138 47 [some (.ref l0), some (.int l1)] [] M (some (.int r.1), r.2) := by
  intro n
  induction n with
  | zero => intro l0 l1 M r h; cases h
  | succ n ih =>
    intro l0 l1 M r h
    unfold f_m_quiet_47 at h
    refine EV_stq mx_138 (pc' := 50) (L' := [some (.ref l0), some (.int l1)]) (st' := [.int (54 : Int32), .int l1]) bo_138_47_400428 rfl ?_
    refine h_ge h (fun h hc => ?_) (fun h hc => ?_)
    · refine r_icT mx_138 li_138_50 (by decide) rfl hc ?_
      refine EV_stq mx_138 (pc' := 80) (L' := [some (.ref l0), some (.int l1)]) (st' := [.int (1 : Int32)]) bo_138_79_febf86 rfl ?_
      obtain rfl := Option.some.inj h
      exact r_ret mx_138 li_138_80 rfl (ro_nar (t := .boolean) (by decide) rfl)
    · refine r_icF mx_138 li_138_50 (by decide) hc ?_
      refine EV_stq mx_138 (pc' := 54) (L' := [some (.ref l0), some (.int l1)]) (st' := [.ref l0]) bo_138_53_a422c0 rfl ?_
      refine r_gA mx_138 li_138_54 fd_14_114 rfl h (fun a1 h => ?_)
      refine EV_stq mx_138 (pc' := 58) (L' := [some (.ref l0), some (.int l1)]) (st' := [.int l1, .ref a1]) bo_138_57_a9d9a3 rfl ?_
      refine r_aI mx_138 li_138_58 h (fun v2 h => ?_)
      refine h_gt h (fun h hc => ?_) (fun h hc => ?_)
      · refine r_ifT mx_138 li_138_59 (by decide) rfl hc ?_
        refine EV_stq mx_138 (pc' := 72) (L' := [some (.ref l0), some (.int l1)]) (st' := [.int (0 : Int32)]) bo_138_71_2ba9bf rfl ?_
        obtain rfl := Option.some.inj h
        exact r_ret mx_138 li_138_72 rfl (ro_nar (t := .boolean) (by decide) rfl)
      · refine r_ifF mx_138 li_138_59 (by decide) hc ?_
        refine EV_stq mx_138 (pc' := 63) (L' := [some (.ref l0), some (.int l1)]) (st' := [.ref l0]) bo_138_62_13a257 rfl ?_
        refine r_gA mx_138 li_138_63 fd_14_129 rfl h (fun a3 h => ?_)
        refine EV_stq mx_138 (pc' := 67) (L' := [some (.ref l0), some (.int l1)]) (st' := [.int l1, .ref a3]) bo_138_66_831ba3 rfl ?_
        refine r_aI mx_138 li_138_67 h (fun v4 h => ?_)
        refine h_le h (fun h hc => ?_) (fun h hc => ?_)
        · refine r_ifT mx_138 li_138_68 (by decide) rfl hc ?_
          refine EV_stq mx_138 (pc' := 47) (L' := [some (.ref l0), some (.int (l1 + (1 : Int32)))]) (st' := []) bo_138_73_a1e9e1 rfl ?_
          exact ih l0 (l1 + (1 : Int32)) M r h
        · refine r_ifF mx_138 li_138_68 (by decide) hc ?_
          refine EV_stq mx_138 (pc' := 72) (L' := [some (.ref l0), some (.int l1)]) (st' := [.int (0 : Int32)]) bo_138_71_2ba9bf rfl ?_
          obtain rfl := Option.some.inj h
          exact r_ret mx_138 li_138_72 rfl (ro_nar (t := .boolean) (by decide) rfl)
theorem e_m_quiet_22 {d : Nat} (hd : 0 ≤ d) : ∀ (n : Nat) (l0 : Nat) (l1 : Int32) (M : Mem) (r : Int32 × Mem), f_m_quiet_22 n l0 l1 M = some r → EV d 138 22 [some (.ref l0), some (.int l1)] [] M (some (.int r.1), r.2) := by
  intro n
  induction n with
  | zero => intro l0 l1 M r h; cases h
  | succ n ih =>
    intro l0 l1 M r h
    unfold f_m_quiet_22 at h
    refine EV_stq mx_138 (pc' := 25) (L' := [some (.ref l0), some (.int l1)]) (st' := [.int (18 : Int32), .int l1]) bo_138_22_13b32e rfl ?_
    refine h_ge h (fun h hc => ?_) (fun h hc => ?_)
    · refine r_icT mx_138 li_138_25 (by decide) rfl hc ?_
      refine EV_stq mx_138 (pc' := 47) (L' := [some (.ref l0), some (.int (0 : Int32))]) (st' := []) bo_138_45_b7d017 rfl ?_
      exact e_m_quiet_47 hd FU l0 (0 : Int32) M r h
    · refine r_icF mx_138 li_138_25 (by decide) hc ?_
      refine EV_stq mx_138 (pc' := 29) (L' := [some (.ref l0), some (.int l1)]) (st' := [.ref l0]) bo_138_28_f39cd0 rfl ?_
      refine r_gA mx_138 li_138_29 fd_14_93 rfl h (fun a1 h => ?_)
      refine EV_stq mx_138 (pc' := 33) (L' := [some (.ref l0), some (.int l1)]) (st' := [.int l1, .ref a1]) bo_138_32_191034 rfl ?_
      refine r_aI mx_138 li_138_33 h (fun v2 h => ?_)
      refine h_le h (fun h hc => ?_) (fun h hc => ?_)
      · refine r_ifT mx_138 li_138_34 (by decide) rfl hc ?_
        refine EV_stq mx_138 (pc' := 22) (L' := [some (.ref l0), some (.int (l1 + (1 : Int32)))]) (st' := []) bo_138_39_fa6643 rfl ?_
        exact ih l0 (l1 + (1 : Int32)) M r h
      · refine r_ifF mx_138 li_138_34 (by decide) hc ?_
        refine EV_stq mx_138 (pc' := 38) (L' := [some (.ref l0), some (.int l1)]) (st' := [.int (0 : Int32)]) bo_138_37_a21c9f rfl ?_
        obtain rfl := Option.some.inj h
        exact r_ret mx_138 li_138_38 rfl (ro_nar (t := .boolean) (by decide) rfl)
theorem e_m_quiet {d : Nat} (hd : 0 ≤ d) (p0 : Nat) (M : Mem) (r : Int32 × Mem) (h : f_m_quiet p0 M = some r) : EV d 138 0 (entL 2 [.ref p0]) [] M (some (.int r.1), r.2) := by
  show EV d 138 0 [some (.ref p0), none] [] M _
  unfold f_m_quiet at h
  refine EV_stq mx_138 (pc' := 1) (L' := [some (.ref p0), none]) (st' := [.ref p0]) bo_138_0_8d5162 rfl ?_
  refine r_gI mx_138 li_138_1 fd_14_271 ⟨by decide, by decide⟩ h (fun v1 h => ?_)
  refine EV_stq mx_138 (pc' := 5) (L' := [some (.ref p0), none]) (st' := [.ref p0, .int v1]) bo_138_4_e962e2 rfl ?_
  refine r_gI mx_138 li_138_5 fd_14_275 ⟨by decide, by decide⟩ h (fun v2 h => ?_)
  refine h_lt h (fun h hc => ?_) (fun h hc => ?_)
  · refine r_icT mx_138 li_138_8 (by decide) rfl hc ?_
    refine EV_stq mx_138 (pc' := 19) (L' := [some (.ref p0), none]) (st' := [.int (0 : Int32)]) bo_138_18_2b31d8 rfl ?_
    obtain rfl := Option.some.inj h
    exact r_ret mx_138 li_138_19 rfl (ro_nar (t := .boolean) (by decide) rfl)
  · refine r_icF mx_138 li_138_8 (by decide) hc ?_
    refine EV_stq mx_138 (pc' := 12) (L' := [some (.ref p0), none]) (st' := [.ref p0]) bo_138_11_081257 rfl ?_
    refine r_gI mx_138 li_138_12 fd_14_268 ⟨by decide, by decide⟩ h (fun v3 h => ?_)
    refine h_le h (fun h hc => ?_) (fun h hc => ?_)
    · refine r_ifT mx_138 li_138_15 (by decide) rfl hc ?_
      refine EV_stq mx_138 (pc' := 22) (L' := [some (.ref p0), some (.int (0 : Int32))]) (st' := []) bo_138_20_aa2fda rfl ?_
      exact e_m_quiet_22 hd FU p0 (0 : Int32) M r h
    · refine r_ifF mx_138 li_138_15 (by decide) hc ?_
      refine EV_stq mx_138 (pc' := 19) (L' := [some (.ref p0), none]) (st' := [.int (0 : Int32)]) bo_138_18_2b31d8 rfl ?_
      obtain rfl := Option.some.inj h
      exact r_ret mx_138 li_138_19 rfl (ro_nar (t := .boolean) (by decide) rfl)
theorem e_m_closes_25 {d : Nat} (hd : 0 ≤ d) : ∀ (n : Nat) (l0 : Nat) (l1 : Int32) (l2 : Int32) (l3 : Int32) (M : Mem) (r : Mem), f_m_closes_25 n l0 l1 l2 l3 M = some r → EV d 139 25 [some (.ref l0), some (.int l1), some (.int l2), some (.int l3)] [] M (none, r) := by
  intro n
  induction n with
  | zero => intro l0 l1 l2 l3 M r h; cases h
  | succ n ih =>
    intro l0 l1 l2 l3 M r h
    unfold f_m_closes_25 at h
    refine EV_stq mx_139 (pc' := 27) (L' := [some (.ref l0), some (.int l1), some (.int l2), some (.int l3)]) (st' := [.ref l0, .int l3]) bo_139_25_6328ed rfl ?_
    refine r_gA mx_139 li_139_27 fd_14_114 rfl h (fun a1 h => ?_)
    refine EV_stq mx_139 (pc' := 31) (L' := [some (.ref l0), some (.int l1), some (.int l2), some (.int l3)]) (st' := [.int l1, .ref a1, .int l3]) bo_139_30_0b4e4a rfl ?_
    refine r_aI mx_139 li_139_31 h (fun v2 h => ?_)
    refine h_ge h (fun h hc => ?_) (fun h hc => ?_)
    · refine r_icT mx_139 li_139_32 (by decide) rfl hc ?_
      refine EV_stq mx_139 (pc' := 102) (L' := [some (.ref l0), some (.int l1), some (.int l2), some (.int l3)]) (st' := [.ref l0]) bo_139_101_9e3292 rfl ?_
      refine r_gA mx_139 li_139_102 fd_14_129 rfl h (fun a3 h => ?_)
      refine EV_stq mx_139 (pc' := 107) (L' := [some (.ref l0), some (.int l1), some (.int l2), some (.int l3)]) (st' := [.int l1, .ref a3, .int l1, .ref a3]) bo_139_105_306733 rfl ?_
      refine r_aI mx_139 li_139_107 h (fun v4 h => ?_)
      refine EV_stq mx_139 (pc' := 110) (L' := [some (.ref l0), some (.int l1), some (.int l2), some (.int l3)]) (st' := [.int (v4 + (1 : Int32)), .int l1, .ref a3]) bo_139_108_15ff6a rfl ?_
      refine r_sI mx_139 li_139_110 h (fun M5 h => ?_)
      refine EV_stq mx_139 (pc' := 112) (L' := [some (.ref l0), some (.int l1), some (.int l2), some (.int l3)]) (st' := [.ref l0]) bo_139_111_87438c rfl ?_
      refine r_gA mx_139 li_139_112 fd_14_114 rfl h (fun a6 h => ?_)
      refine EV_stq mx_139 (pc' := 117) (L' := [some (.ref l0), some (.int l1), some (.int l2), some (.int l3)]) (st' := [.int (0 : Int32), .int l1, .ref a6]) bo_139_115_b332e5 rfl ?_
      refine r_sI mx_139 li_139_117 h (fun M7 h => ?_)
      refine EV_stq mx_139 (pc' := 119) (L' := [some (.ref l0), some (.int l1), some (.int l2), some (.int l3)]) (st' := [.ref l0]) bo_139_118_c412ec rfl ?_
      refine r_gA mx_139 li_139_119 fd_14_117 rfl h (fun a8 h => ?_)
      refine EV_stq mx_139 (pc' := 124) (L' := [some (.ref l0), some (.int l1), some (.int l2), some (.int l3)]) (st' := [.int (0 : Int32), .int l1, .ref a8]) bo_139_122_0ea0fe rfl ?_
      refine r_sI mx_139 li_139_124 h (fun M9 h => ?_)
      obtain rfl := Option.some.inj h
      exact r_ret mx_139 li_139_125 rfl rfl
    · refine r_icF mx_139 li_139_32 (by decide) hc ?_
      refine EV_stq mx_139 (pc' := 36) (L' := [some (.ref l0), some (.int l1), some (.int l2), some (.int l3)]) (st' := [.ref l0]) bo_139_35_a976ef rfl ?_
      refine r_gA mx_139 li_139_36 fd_14_138 rfl h (fun a10 h => ?_)
      refine EV_stq mx_139 (pc' := 45) (L' := [some (.ref l0), some (.int l1), some (.int l2), some (.int l3)]) (st' := [.ref l0, .int (((4 : Int32) * l2) + l3), .ref a10]) bo_139_39_afb3ca rfl ?_
      refine r_gA mx_139 li_139_45 fd_14_120 rfl h (fun a11 h => ?_)
      refine EV_stq mx_139 (pc' := 53) (L' := [some (.ref l0), some (.int l1), some (.int l2), some (.int l3)]) (st' := [.int (((4 : Int32) * l1) + l3), .ref a11, .int (((4 : Int32) * l2) + l3), .ref a10]) bo_139_48_7d44c6 rfl ?_
      refine r_aI mx_139 li_139_53 h (fun v12 h => ?_)
      refine r_sI mx_139 li_139_54 h (fun M13 h => ?_)
      refine EV_stq mx_139 (pc' := 56) (L' := [some (.ref l0), some (.int l1), some (.int l2), some (.int l3)]) (st' := [.ref l0]) bo_139_55_bd1207 rfl ?_
      refine r_gA mx_139 li_139_56 fd_14_141 rfl h (fun a14 h => ?_)
      refine EV_stq mx_139 (pc' := 65) (L' := [some (.ref l0), some (.int l1), some (.int l2), some (.int l3)]) (st' := [.ref l0, .int (((4 : Int32) * l2) + l3), .ref a14]) bo_139_59_f990b3 rfl ?_
      refine r_gA mx_139 li_139_65 fd_14_123 rfl h (fun a15 h => ?_)
      refine EV_stq mx_139 (pc' := 73) (L' := [some (.ref l0), some (.int l1), some (.int l2), some (.int l3)]) (st' := [.int (((4 : Int32) * l1) + l3), .ref a15, .int (((4 : Int32) * l2) + l3), .ref a14]) bo_139_68_f3ff52 rfl ?_
      refine r_aI mx_139 li_139_73 h (fun v16 h => ?_)
      refine r_sI mx_139 li_139_74 h (fun M17 h => ?_)
      refine EV_stq mx_139 (pc' := 76) (L' := [some (.ref l0), some (.int l1), some (.int l2), some (.int l3)]) (st' := [.ref l0]) bo_139_75_1f1f88 rfl ?_
      refine r_gA mx_139 li_139_76 fd_14_144 rfl h (fun a18 h => ?_)
      refine EV_stq mx_139 (pc' := 85) (L' := [some (.ref l0), some (.int l1), some (.int l2), some (.int l3)]) (st' := [.ref l0, .int (((4 : Int32) * l2) + l3), .ref a18]) bo_139_79_16ec63 rfl ?_
      refine r_gA mx_139 li_139_85 fd_14_126 rfl h (fun a19 h => ?_)
      refine EV_stq mx_139 (pc' := 93) (L' := [some (.ref l0), some (.int l1), some (.int l2), some (.int l3)]) (st' := [.int (((4 : Int32) * l1) + l3), .ref a19, .int (((4 : Int32) * l2) + l3), .ref a18]) bo_139_88_976b31 rfl ?_
      refine r_aI mx_139 li_139_93 h (fun v20 h => ?_)
      refine r_sI mx_139 li_139_94 h (fun M21 h => ?_)
      refine EV_stq mx_139 (pc' := 25) (L' := [some (.ref l0), some (.int l1), some (.int l2), some (.int (l3 + (1 : Int32)))]) (st' := []) bo_139_95_2aa25d rfl ?_
      exact ih l0 l1 l2 (l3 + (1 : Int32)) M21 r h
theorem e_m_closes {d : Nat} (hd : 0 ≤ d) (p0 : Nat) (p1 : Int32) (M : Mem) (r : Mem) (h : f_m_closes p0 p1 M = some r) : EV d 139 0 (entL 4 [.ref p0, .int p1]) [] M (none, r) := by
  show EV d 139 0 [some (.ref p0), some (.int p1), none, none] [] M _
  unfold f_m_closes at h
  refine EV_stq mx_139 (pc' := 4) (L' := [some (.ref p0), some (.int p1), none, none]) (st' := [.ref p0, .int ((4 : Int32) * p1)]) bo_139_0_5a4d31 rfl ?_
  refine r_gA mx_139 li_139_4 fd_14_129 rfl h (fun a1 h => ?_)
  refine EV_stq mx_139 (pc' := 8) (L' := [some (.ref p0), some (.int p1), none, none]) (st' := [.int p1, .ref a1, .int ((4 : Int32) * p1)]) bo_139_7_9b264f rfl ?_
  refine r_aI mx_139 li_139_8 h (fun v2 h => ?_)
  refine EV_stq mx_139 (pc' := 12) (L' := [some (.ref p0), some (.int p1), some (.int (((4 : Int32) * p1) + v2)), none]) (st' := [.ref p0]) bo_139_9_94b225 rfl ?_
  refine r_gA mx_139 li_139_12 fd_14_135 rfl h (fun a3 h => ?_)
  refine EV_stq mx_139 (pc' := 17) (L' := [some (.ref p0), some (.int p1), some (.int (((4 : Int32) * p1) + v2)), none]) (st' := [.ref p0, .int (((4 : Int32) * p1) + v2), .ref a3]) bo_139_15_d45c32 rfl ?_
  refine r_gA mx_139 li_139_17 fd_14_114 rfl h (fun a4 h => ?_)
  refine EV_stq mx_139 (pc' := 21) (L' := [some (.ref p0), some (.int p1), some (.int (((4 : Int32) * p1) + v2)), none]) (st' := [.int p1, .ref a4, .int (((4 : Int32) * p1) + v2), .ref a3]) bo_139_20_baa9a0 rfl ?_
  refine r_aI mx_139 li_139_21 h (fun v5 h => ?_)
  refine r_sI mx_139 li_139_22 h (fun M6 h => ?_)
  refine EV_stq mx_139 (pc' := 25) (L' := [some (.ref p0), some (.int p1), some (.int (((4 : Int32) * p1) + v2)), some (.int (0 : Int32))]) (st' := []) bo_139_23_31ad6f rfl ?_
  exact e_m_closes_25 hd FU p0 p1 (((4 : Int32) * p1) + v2) (0 : Int32) M6 r h
theorem e_m_sink {d : Nat} (hd : 0 ≤ d) (p0 : Nat) (M : Mem) (r : Int32 × Mem) (h : f_m_sink p0 M = some r) : EV d 140 0 (entL 1 [.ref p0]) [] M (some (.int r.1), r.2) := by
  show EV d 140 0 [some (.ref p0)] [] M _
  unfold f_m_sink at h
  refine EV_stq mx_140 (pc' := 1) (L' := [some (.ref p0)]) (st' := [.ref p0]) bo_140_0_8d5162 rfl ?_
  refine r_gI mx_140 li_140_1 fd_14_196 ⟨by decide, by decide⟩ h (fun v1 h => ?_)
  refine EV_stq mx_140 (pc' := 6) (L' := [some (.ref p0)]) (st' := [.int (v1 + (1 : Int32))]) bo_140_4_40e659 rfl ?_
  obtain rfl := Option.some.inj h
  exact r_ret mx_140 li_140_6 rfl ro_int
theorem e_m_spot {d : Nat} (hd : 0 ≤ d) (p0 : Int32) (p1 : Int32) (M : Mem) (r : Int32 × Mem) (h : f_m_spot p0 p1 M = some r) : EV d 141 0 (entL 2 [.int p0, .int p1]) [] M (some (.int r.1), r.2) := by
  show EV d 141 0 [some (.int p0), some (.int p1)] [] M _
  unfold f_m_spot at h
  refine EV_stq mx_141 (pc' := 5) (L' := [some (.int p0), some (.int p1)]) (st' := [.int (((3 : Int32) * p0) + p1)]) bo_141_0_e5d6d4 rfl ?_
  obtain rfl := Option.some.inj h
  exact r_ret mx_141 li_141_5 rfl ro_int
theorem e_m_isKeyed {d : Nat} (hd : 0 ≤ d) (p0 : Nat) (p1 : Int32) (M : Mem) (r : Int32 × Mem) (h : f_m_isKeyed p0 p1 M = some r) : EV d 142 0 (entL 2 [.ref p0, .int p1]) [] M (some (.int r.1), r.2) := by
  show EV d 142 0 [some (.ref p0), some (.int p1)] [] M _
  unfold f_m_isKeyed at h
  refine EV_stq mx_142 (pc' := 1) (L' := [some (.ref p0), some (.int p1)]) (st' := [.ref p0]) bo_142_0_8d5162 rfl ?_
  refine r_gA mx_142 li_142_1 fd_14_13 rfl h (fun a1 h => ?_)
  refine EV_stq mx_142 (pc' := 5) (L' := [some (.ref p0), some (.int p1)]) (st' := [.int p1, .ref a1]) bo_142_4_e962e2 rfl ?_
  refine r_aI mx_142 li_142_5 h (fun v2 h => ?_)
  refine EV_stq mx_142 (pc' := 7) (L' := [some (.ref p0), some (.int p1)]) (st' := [.int (4 : Int32), .int v2]) bo_142_6_907e54 rfl ?_
  refine h_eq h (fun h hc => ?_) (fun h hc => ?_)
  · refine r_icT mx_142 li_142_7 (by decide) rfl hc ?_
    refine EV_stq mx_142 (pc' := 47) (L' := [some (.ref p0), some (.int p1)]) (st' := [.int (1 : Int32)]) bo_142_42_610feb rfl ?_
    obtain rfl := Option.some.inj h
    exact r_ret mx_142 li_142_47 rfl (ro_nar (t := .boolean) (by decide) rfl)
  · refine r_icF mx_142 li_142_7 (by decide) hc ?_
    refine EV_stq mx_142 (pc' := 11) (L' := [some (.ref p0), some (.int p1)]) (st' := [.ref p0]) bo_142_10_2a30f5 rfl ?_
    refine r_gA mx_142 li_142_11 fd_14_13 rfl h (fun a3 h => ?_)
    refine EV_stq mx_142 (pc' := 15) (L' := [some (.ref p0), some (.int p1)]) (st' := [.int p1, .ref a3]) bo_142_14_3e81ce rfl ?_
    refine r_aI mx_142 li_142_15 h (fun v4 h => ?_)
    refine EV_stq mx_142 (pc' := 17) (L' := [some (.ref p0), some (.int p1)]) (st' := [.int (5 : Int32), .int v4]) bo_142_16_862b1a rfl ?_
    refine h_eq h (fun h hc => ?_) (fun h hc => ?_)
    · refine r_icT mx_142 li_142_17 (by decide) rfl hc ?_
      refine EV_stq mx_142 (pc' := 47) (L' := [some (.ref p0), some (.int p1)]) (st' := [.int (1 : Int32)]) bo_142_42_610feb rfl ?_
      obtain rfl := Option.some.inj h
      exact r_ret mx_142 li_142_47 rfl (ro_nar (t := .boolean) (by decide) rfl)
    · refine r_icF mx_142 li_142_17 (by decide) hc ?_
      refine EV_stq mx_142 (pc' := 21) (L' := [some (.ref p0), some (.int p1)]) (st' := [.ref p0]) bo_142_20_baa9a0 rfl ?_
      refine r_gA mx_142 li_142_21 fd_14_13 rfl h (fun a5 h => ?_)
      refine EV_stq mx_142 (pc' := 25) (L' := [some (.ref p0), some (.int p1)]) (st' := [.int p1, .ref a5]) bo_142_24_99aa1d rfl ?_
      refine r_aI mx_142 li_142_25 h (fun v6 h => ?_)
      refine EV_stq mx_142 (pc' := 28) (L' := [some (.ref p0), some (.int p1)]) (st' := [.int (6 : Int32), .int v6]) bo_142_26_bd3b31 rfl ?_
      refine h_eq h (fun h hc => ?_) (fun h hc => ?_)
      · refine r_icT mx_142 li_142_28 (by decide) rfl hc ?_
        refine EV_stq mx_142 (pc' := 47) (L' := [some (.ref p0), some (.int p1)]) (st' := [.int (1 : Int32)]) bo_142_42_610feb rfl ?_
        obtain rfl := Option.some.inj h
        exact r_ret mx_142 li_142_47 rfl (ro_nar (t := .boolean) (by decide) rfl)
      · refine r_icF mx_142 li_142_28 (by decide) hc ?_
        refine EV_stq mx_142 (pc' := 32) (L' := [some (.ref p0), some (.int p1)]) (st' := [.ref p0]) bo_142_31_c379e3 rfl ?_
        refine r_gA mx_142 li_142_32 fd_14_13 rfl h (fun a7 h => ?_)
        refine EV_stq mx_142 (pc' := 36) (L' := [some (.ref p0), some (.int p1)]) (st' := [.int p1, .ref a7]) bo_142_35_a976ef rfl ?_
        refine r_aI mx_142 li_142_36 h (fun v8 h => ?_)
        refine EV_stq mx_142 (pc' := 39) (L' := [some (.ref p0), some (.int p1)]) (st' := [.int (8 : Int32), .int v8]) bo_142_37_a21c9f rfl ?_
        refine h_ne h (fun h hc => ?_) (fun h hc => ?_)
        · refine r_icF mx_142 li_142_39 (by decide) hc ?_
          refine EV_stq mx_142 (pc' := 47) (L' := [some (.ref p0), some (.int p1)]) (st' := [.int (1 : Int32)]) bo_142_42_610feb rfl ?_
          obtain rfl := Option.some.inj h
          exact r_ret mx_142 li_142_47 rfl (ro_nar (t := .boolean) (by decide) rfl)
        · refine r_icT mx_142 li_142_39 (by decide) rfl hc ?_
          refine EV_stq mx_142 (pc' := 47) (L' := [some (.ref p0), some (.int p1)]) (st' := [.int (0 : Int32)]) bo_142_46_4b02d4 rfl ?_
          obtain rfl := Option.some.inj h
          exact r_ret mx_142 li_142_47 rfl (ro_nar (t := .boolean) (by decide) rfl)
theorem e_m_home {d : Nat} (hd : 0 ≤ d) (p0 : Nat) (p1 : Int32) (p2 : Int32) (M : Mem) (r : Int32 × Mem) (h : f_m_home p0 p1 p2 M = some r) : EV d 143 0 (entL 3 [.ref p0, .int p1, .int p2]) [] M (some (.int r.1), r.2) := by
  show EV d 143 0 [some (.ref p0), some (.int p1), some (.int p2)] [] M _
  unfold f_m_home at h
  refine EV_stq mx_143 (pc' := 3) (L' := [some (.ref p0), some (.int p1), some (.int p2)]) (st' := [.int (8 : Int32), .int p2]) bo_143_0_264884 rfl ?_
  refine r_rm mx_143 li_143_3 h (fun v1 h => ?_)
  refine EV_stq mx_143 (pc' := 5) (L' := [some (.ref p0), some (.int p1), some (.int p2)]) (st' := [.ref p0, .int v1]) bo_143_4_e962e2 rfl ?_
  refine r_gA mx_143 li_143_5 fd_14_22 rfl h (fun a2 h => ?_)
  refine EV_stq mx_143 (pc' := 9) (L' := [some (.ref p0), some (.int p1), some (.int p2)]) (st' := [.int p1, .ref a2, .int v1]) bo_143_8_383530 rfl ?_
  refine r_aI mx_143 li_143_9 h (fun v3 h => ?_)
  refine EV_stq mx_143 (pc' := 13) (L' := [some (.ref p0), some (.int p1), some (.int p2)]) (st' := [.int (8 : Int32), .int (v1 * v3)]) bo_143_10_42a704 rfl ?_
  refine r_dv mx_143 li_143_13 h (fun v4 h => ?_)
  obtain rfl := Option.some.inj h
  exact r_ret mx_143 li_143_14 rfl ro_int
theorem e_m_goal {d : Nat} (hd : 1 ≤ d) (p0 : Nat) (p1 : Int32) (p2 : Int32) (p3 : Int32) (M : Mem) (r : Int32 × Mem) (h : f_m_goal p0 p1 p2 p3 M = some r) : EV d 144 0 (entL 4 [.ref p0, .int p1, .int p2, .int p3]) [] M (some (.int r.1), r.2) := by
  show EV d 144 0 [some (.ref p0), some (.int p1), some (.int p2), some (.int p3)] [] M _
  unfold f_m_goal at h
  refine EV_stq mx_144 (pc' := 4) (L' := [some (.ref p0), some (.int p1), some (.int p2), some (.int p3)]) (st' := [.int (p1 + (1 : Int32)), .ref p0]) bo_144_0_5a4d31 rfl ?_
  refine h_ck h (fun hc h => ?_)
  refine h_cI h (fun v2 M1 e h => ?_)
  refine EV_call [.ref p0, .int (p1 + (1 : Int32))] [] mx_144 li_144_4 rfl rfl si_14_281 rfl (by decide) (by decide) (by omega) ma_142 rfl (Nat.le_of_ble_eq_true rfl) rfl rfl (Nat.le_of_ble_eq_true rfl) (rc_1 mt_at_142 rfl rfl (by decide) hc) (e_m_isKeyed (by omega) p0 (p1 + (1 : Int32)) M _ e) ?_
  show EV d 144 7 [some (.ref p0), some (.int p1), some (.int p2), some (.int p3)] [.int v2] M1 _
  refine h_eq h (fun h hc => ?_) (fun h hc => ?_)
  · refine r_ifT mx_144 li_144_7 (by decide) rfl hc ?_
    refine EV_stq mx_144 (pc' := 22) (L' := [some (.ref p0), some (.int p1), some (.int p2), some (.int p3)]) (st' := [.ref p0]) bo_144_21_46c79c rfl ?_
    refine r_gA mx_144 li_144_22 fd_14_84 rfl h (fun a3 h => ?_)
    refine EV_stq mx_144 (pc' := 27) (L' := [some (.ref p0), some (.int p1), some (.int p2), some (.int p3)]) (st' := [.int p2, .int p1, .ref a3]) bo_144_25_6328ed rfl ?_
    refine h_cI h (fun v5 M4 e h => ?_)
    refine EV_call [.int p1, .int p2] [.ref a3] mx_144 li_144_27 rfl rfl si_14_288 rfl (by decide) (by decide) (by omega) ma_141 rfl (Nat.le_of_ble_eq_true rfl) rfl rfl (Nat.le_of_ble_eq_true rfl) rfl (e_m_spot (by omega) p1 p2 M1 _ e) ?_
    show EV d 144 30 [some (.ref p0), some (.int p1), some (.int p2), some (.int p3)] [.int v5, .ref a3] M4 _
    refine r_aI mx_144 li_144_30 h (fun v6 h => ?_)
    refine EV_stq mx_144 (pc' := 32) (L' := [some (.ref p0), some (.int p1), some (.int p2), some (.int p3)]) (st' := [.ref p0, .int v6]) bo_144_31_c379e3 rfl ?_
    refine r_gA mx_144 li_144_32 fd_14_22 rfl h (fun a7 h => ?_)
    refine EV_stq mx_144 (pc' := 38) (L' := [some (.ref p0), some (.int p1), some (.int p2), some (.int p3)]) (st' := [.int (p1 + (1 : Int32)), .ref a7, .int v6]) bo_144_35_0ac55d rfl ?_
    refine r_aI mx_144 li_144_38 h (fun v8 h => ?_)
    refine r_rm mx_144 li_144_39 h (fun v9 h => ?_)
    obtain rfl := Option.some.inj h
    exact r_ret mx_144 li_144_40 rfl ro_int
  · refine r_ifF mx_144 li_144_7 (by decide) hc ?_
    refine EV_stq mx_144 (pc' := 15) (L' := [some (.ref p0), some (.int p1), some (.int p2), some (.int p3)]) (st' := [.int p3, .int (p1 + (1 : Int32)), .ref p0]) bo_144_10_326e4c rfl ?_
    refine h_ck h (fun hc h => ?_)
    refine h_cI h (fun v11 M10 e h => ?_)
    refine EV_call [.ref p0, .int (p1 + (1 : Int32)), .int p3] [] mx_144 li_144_15 rfl rfl si_14_285 rfl (by decide) (by decide) (by omega) ma_143 rfl (Nat.le_of_ble_eq_true rfl) rfl rfl (Nat.le_of_ble_eq_true rfl) (rc_1 mt_at_143 rfl rfl (by decide) hc) (e_m_home (by omega) p0 (p1 + (1 : Int32)) p3 M1 _ e) ?_
    show EV d 144 18 [some (.ref p0), some (.int p1), some (.int p2), some (.int p3)] [.int v11] M10 _
    refine EV_stq mx_144 (pc' := 40) (L' := [some (.ref p0), some (.int p1), some (.int p2), some (.int p3)]) (st' := [.int v11]) bo_144_18_2b31d8 rfl ?_
    obtain rfl := Option.some.inj h
    exact r_ret mx_144 li_144_40 rfl ro_int
theorem e_m_line {d : Nat} (hd : 0 ≤ d) (p0 : Int32) (p1 : Int32) (p2 : Int32) (M : Mem) (r : Int32 × Mem) (h : f_m_line p0 p1 p2 M = some r) : EV d 145 0 (entL 3 [.int p0, .int p1, .int p2]) [] M (some (.int r.1), r.2) := by
  show EV d 145 0 [some (.int p0), some (.int p1), some (.int p2)] [] M _
  unfold f_m_line at h
  refine EV_stq mx_145 (pc' := 9) (L' := [some (.int p0), some (.int p1), some (.int p2)]) (st' := [.int (((3 : Int32) * (((3 : Int32) * p0) + p1)) + p2)]) bo_145_0_cba814 rfl ?_
  obtain rfl := Option.some.inj h
  exact r_ret mx_145 li_145_9 rfl ro_int
theorem e_m_takesRecord {d : Nat} (hd : 0 ≤ d) (p0 : Nat) (p1 : Int32) (M : Mem) (r : Int32 × Mem) (h : f_m_takesRecord p0 p1 M = some r) : EV d 146 0 (entL 2 [.ref p0, .int p1]) [] M (some (.int r.1), r.2) := by
  show EV d 146 0 [some (.ref p0), some (.int p1)] [] M _
  unfold f_m_takesRecord at h
  refine EV_stq mx_146 (pc' := 1) (L' := [some (.ref p0), some (.int p1)]) (st' := [.ref p0]) bo_146_0_8d5162 rfl ?_
  refine r_gA mx_146 li_146_1 fd_14_114 rfl h (fun a1 h => ?_)
  refine EV_stq mx_146 (pc' := 5) (L' := [some (.ref p0), some (.int p1)]) (st' := [.int p1, .ref a1]) bo_146_4_e962e2 rfl ?_
  refine r_aI mx_146 li_146_5 h (fun v2 h => ?_)
  refine EV_stq mx_146 (pc' := 7) (L' := [some (.ref p0), some (.int p1)]) (st' := [.ref p0, .int v2]) bo_146_6_907e54 rfl ?_
  refine r_gI mx_146 li_146_7 fd_14_25 ⟨by decide, by decide⟩ h (fun v3 h => ?_)
  refine h_lt h (fun h hc => ?_) (fun h hc => ?_)
  · refine r_icT mx_146 li_146_10 (by decide) rfl hc ?_
    refine EV_stq mx_146 (pc' := 31) (L' := [some (.ref p0), some (.int p1)]) (st' := [.int (1 : Int32)]) bo_146_26_539da0 rfl ?_
    obtain rfl := Option.some.inj h
    exact r_ret mx_146 li_146_31 rfl (ro_nar (t := .boolean) (by decide) rfl)
  · refine r_icF mx_146 li_146_10 (by decide) hc ?_
    refine EV_stq mx_146 (pc' := 14) (L' := [some (.ref p0), some (.int p1)]) (st' := [.ref p0]) bo_146_13_15f019 rfl ?_
    refine r_gA mx_146 li_146_14 fd_14_129 rfl h (fun a4 h => ?_)
    refine EV_stq mx_146 (pc' := 18) (L' := [some (.ref p0), some (.int p1)]) (st' := [.int p1, .ref a4]) bo_146_17_509256 rfl ?_
    refine r_aI mx_146 li_146_18 h (fun v5 h => ?_)
    refine EV_stq mx_146 (pc' := 20) (L' := [some (.ref p0), some (.int p1)]) (st' := [.ref p0, .int v5]) bo_146_19_1a8444 rfl ?_
    refine r_gI mx_146 li_146_20 fd_14_32 ⟨by decide, by decide⟩ h (fun v6 h => ?_)
    refine h_ge h (fun h hc => ?_) (fun h hc => ?_)
    · refine r_icT mx_146 li_146_23 (by decide) rfl hc ?_
      refine EV_stq mx_146 (pc' := 31) (L' := [some (.ref p0), some (.int p1)]) (st' := [.int (0 : Int32)]) bo_146_30_0b4e4a rfl ?_
      obtain rfl := Option.some.inj h
      exact r_ret mx_146 li_146_31 rfl (ro_nar (t := .boolean) (by decide) rfl)
    · refine r_icF mx_146 li_146_23 (by decide) hc ?_
      refine EV_stq mx_146 (pc' := 31) (L' := [some (.ref p0), some (.int p1)]) (st' := [.int (1 : Int32)]) bo_146_26_539da0 rfl ?_
      obtain rfl := Option.some.inj h
      exact r_ret mx_146 li_146_31 rfl (ro_nar (t := .boolean) (by decide) rfl)
theorem e_m_puts_18 {d : Nat} (hd : 1 ≤ d) (l0 : Nat) (l1 : Int32) (l2 : Int32) (l3 : Int32) (l4 : Int32) (M : Mem) (r : Mem) (h : f_m_puts_18 l0 l1 l2 l3 l4 M = some r) : EV d 147 18 [some (.ref l0), some (.int l1), some (.int l2), some (.int l3), some (.int l4)] [] M (none, r) := by
  unfold f_m_puts_18 at h
  refine EV_stq mx_147 (pc' := 19) (L' := [some (.ref l0), some (.int l1), some (.int l2), some (.int l3), some (.int l4)]) (st' := [.ref l0]) bo_147_18_2b31d8 rfl ?_
  refine r_gA mx_147 li_147_19 fd_14_120 rfl h (fun a1 h => ?_)
  refine EV_stq mx_147 (pc' := 26) (L' := [some (.ref l0), some (.int l1), some (.int l2), some (.int l3), some (.int l4)]) (st' := [.ref l0, .int ((4 : Int32) * l1), .ref a1]) bo_147_22_569bed rfl ?_
  refine r_gA mx_147 li_147_26 fd_14_114 rfl h (fun a2 h => ?_)
  refine EV_stq mx_147 (pc' := 30) (L' := [some (.ref l0), some (.int l1), some (.int l2), some (.int l3), some (.int l4)]) (st' := [.int l1, .ref a2, .int ((4 : Int32) * l1), .ref a1]) bo_147_29_2d7a5f rfl ?_
  refine r_aI mx_147 li_147_30 h (fun v3 h => ?_)
  refine EV_stq mx_147 (pc' := 33) (L' := [some (.ref l0), some (.int l1), some (.int l2), some (.int l3), some (.int l4)]) (st' := [.int l2, .int (((4 : Int32) * l1) + v3), .ref a1]) bo_147_31_f6932f rfl ?_
  refine r_sI mx_147 li_147_33 h (fun M4 h => ?_)
  refine EV_stq mx_147 (pc' := 35) (L' := [some (.ref l0), some (.int l1), some (.int l2), some (.int l3), some (.int l4)]) (st' := [.ref l0]) bo_147_34_130638 rfl ?_
  refine r_gA mx_147 li_147_35 fd_14_123 rfl h (fun a5 h => ?_)
  refine EV_stq mx_147 (pc' := 42) (L' := [some (.ref l0), some (.int l1), some (.int l2), some (.int l3), some (.int l4)]) (st' := [.ref l0, .int ((4 : Int32) * l1), .ref a5]) bo_147_38_883a8f rfl ?_
  refine r_gA mx_147 li_147_42 fd_14_114 rfl h (fun a6 h => ?_)
  refine EV_stq mx_147 (pc' := 46) (L' := [some (.ref l0), some (.int l1), some (.int l2), some (.int l3), some (.int l4)]) (st' := [.int l1, .ref a6, .int ((4 : Int32) * l1), .ref a5]) bo_147_45_8e29f2 rfl ?_
  refine r_aI mx_147 li_147_46 h (fun v7 h => ?_)
  refine EV_stq mx_147 (pc' := 49) (L' := [some (.ref l0), some (.int l1), some (.int l2), some (.int l3), some (.int l4)]) (st' := [.int l3, .int (((4 : Int32) * l1) + v7), .ref a5]) bo_147_47_400428 rfl ?_
  refine r_sI mx_147 li_147_49 h (fun M8 h => ?_)
  refine EV_stq mx_147 (pc' := 51) (L' := [some (.ref l0), some (.int l1), some (.int l2), some (.int l3), some (.int l4)]) (st' := [.ref l0]) bo_147_50_8a8783 rfl ?_
  refine r_gA mx_147 li_147_51 fd_14_126 rfl h (fun a9 h => ?_)
  refine EV_stq mx_147 (pc' := 58) (L' := [some (.ref l0), some (.int l1), some (.int l2), some (.int l3), some (.int l4)]) (st' := [.ref l0, .int ((4 : Int32) * l1), .ref a9]) bo_147_54_1dd508 rfl ?_
  refine r_gA mx_147 li_147_58 fd_14_114 rfl h (fun a10 h => ?_)
  refine EV_stq mx_147 (pc' := 62) (L' := [some (.ref l0), some (.int l1), some (.int l2), some (.int l3), some (.int l4)]) (st' := [.int l1, .ref a10, .int ((4 : Int32) * l1), .ref a9]) bo_147_61_769b30 rfl ?_
  refine r_aI mx_147 li_147_62 h (fun v11 h => ?_)
  refine EV_stq mx_147 (pc' := 66) (L' := [some (.ref l0), some (.int l1), some (.int l2), some (.int l3), some (.int l4)]) (st' := [.int l4, .int (((4 : Int32) * l1) + v11), .ref a9]) bo_147_63_92b333 rfl ?_
  refine r_sI mx_147 li_147_66 h (fun M12 h => ?_)
  refine EV_stq mx_147 (pc' := 68) (L' := [some (.ref l0), some (.int l1), some (.int l2), some (.int l3), some (.int l4)]) (st' := [.ref l0]) bo_147_67_ded3a4 rfl ?_
  refine r_gA mx_147 li_147_68 fd_14_114 rfl h (fun a13 h => ?_)
  refine EV_stq mx_147 (pc' := 73) (L' := [some (.ref l0), some (.int l1), some (.int l2), some (.int l3), some (.int l4)]) (st' := [.int l1, .ref a13, .int l1, .ref a13]) bo_147_71_0bf829 rfl ?_
  refine r_aI mx_147 li_147_73 h (fun v14 h => ?_)
  refine EV_stq mx_147 (pc' := 76) (L' := [some (.ref l0), some (.int l1), some (.int l2), some (.int l3), some (.int l4)]) (st' := [.int (v14 + (1 : Int32)), .int l1, .ref a13]) bo_147_74_f61e5a rfl ?_
  refine r_sI mx_147 li_147_76 h (fun M15 h => ?_)
  refine EV_stq mx_147 (pc' := 78) (L' := [some (.ref l0), some (.int l1), some (.int l2), some (.int l3), some (.int l4)]) (st' := [.ref l0]) bo_147_77_9a98ff rfl ?_
  refine r_gA mx_147 li_147_78 fd_14_114 rfl h (fun a16 h => ?_)
  refine EV_stq mx_147 (pc' := 82) (L' := [some (.ref l0), some (.int l1), some (.int l2), some (.int l3), some (.int l4)]) (st' := [.int l1, .ref a16]) bo_147_81_6cfd26 rfl ?_
  refine r_aI mx_147 li_147_82 h (fun v17 h => ?_)
  refine EV_stq mx_147 (pc' := 84) (L' := [some (.ref l0), some (.int l1), some (.int l2), some (.int l3), some (.int l4)]) (st' := [.ref l0, .int v17]) bo_147_83_dbc641 rfl ?_
  refine r_gI mx_147 li_147_84 fd_14_25 ⟨by decide, by decide⟩ h (fun v18 h => ?_)
  refine h_ne h (fun h hc => ?_) (fun h hc => ?_)
  · refine r_icF mx_147 li_147_87 (by decide) hc ?_
    refine EV_stq mx_147 (pc' := 91) (L' := [some (.ref l0), some (.int l1), some (.int l2), some (.int l3), some (.int l4)]) (st' := [.ref l0]) bo_147_90_d3b5bf rfl ?_
    refine r_gA mx_147 li_147_91 fd_14_129 rfl h (fun a19 h => ?_)
    refine EV_stq mx_147 (pc' := 95) (L' := [some (.ref l0), some (.int l1), some (.int l2), some (.int l3), some (.int l4)]) (st' := [.int l1, .ref a19]) bo_147_94_6615ab rfl ?_
    refine r_aI mx_147 li_147_95 h (fun v20 h => ?_)
    refine EV_stq mx_147 (pc' := 97) (L' := [some (.ref l0), some (.int l1), some (.int l2), some (.int l3), some (.int l4)]) (st' := [.ref l0, .int v20]) bo_147_96_2375ef rfl ?_
    refine r_gI mx_147 li_147_97 fd_14_32 ⟨by decide, by decide⟩ h (fun v21 h => ?_)
    refine h_ge h (fun h hc => ?_) (fun h hc => ?_)
    · refine r_icT mx_147 li_147_100 (by decide) rfl hc ?_
      obtain rfl := Option.some.inj h
      exact r_ret mx_147 li_147_108 rfl rfl
    · refine r_icF mx_147 li_147_100 (by decide) hc ?_
      refine EV_stq mx_147 (pc' := 105) (L' := [some (.ref l0), some (.int l1), some (.int l2), some (.int l3), some (.int l4)]) (st' := [.int l1, .ref l0]) bo_147_103_b58a7c rfl ?_
      refine h_ck h (fun hc h => ?_)
      refine h_cV h (fun M22 e h => ?_)
      refine EV_call [.ref l0, .int l1] [] mx_147 li_147_105 rfl rfl si_14_278 rfl (by decide) (by decide) (by omega) ma_139 rfl (Nat.le_of_ble_eq_true rfl) rfl rfl (Nat.le_of_ble_eq_true rfl) (rc_1 mt_at_139 rfl rfl (by decide) hc) (e_m_closes (by omega) l0 l1 M15 _ e) ?_
      show EV d 147 108 [some (.ref l0), some (.int l1), some (.int l2), some (.int l3), some (.int l4)] [] M22 _
      obtain rfl := Option.some.inj h
      exact r_ret mx_147 li_147_108 rfl rfl
  · refine r_icT mx_147 li_147_87 (by decide) rfl hc ?_
    obtain rfl := Option.some.inj h
    exact r_ret mx_147 li_147_108 rfl rfl
theorem e_m_puts {d : Nat} (hd : 1 ≤ d) (p0 : Nat) (p1 : Int32) (p2 : Int32) (p3 : Int32) (p4 : Int32) (M : Mem) (r : Mem) (h : f_m_puts p0 p1 p2 p3 p4 M = some r) : EV d 147 0 (entL 5 [.ref p0, .int p1, .int p2, .int p3, .int p4]) [] M (none, r) := by
  show EV d 147 0 [some (.ref p0), some (.int p1), some (.int p2), some (.int p3), some (.int p4)] [] M _
  unfold f_m_puts at h
  refine EV_stq mx_147 (pc' := 1) (L' := [some (.ref p0), some (.int p1), some (.int p2), some (.int p3), some (.int p4)]) (st' := [.ref p0]) bo_147_0_8d5162 rfl ?_
  refine r_gA mx_147 li_147_1 fd_14_114 rfl h (fun a1 h => ?_)
  refine EV_stq mx_147 (pc' := 5) (L' := [some (.ref p0), some (.int p1), some (.int p2), some (.int p3), some (.int p4)]) (st' := [.int p1, .ref a1]) bo_147_4_e962e2 rfl ?_
  refine r_aI mx_147 li_147_5 h (fun v2 h => ?_)
  refine EV_stq mx_147 (pc' := 7) (L' := [some (.ref p0), some (.int p1), some (.int p2), some (.int p3), some (.int p4)]) (st' := [.ref p0, .int v2]) bo_147_6_907e54 rfl ?_
  refine r_gI mx_147 li_147_7 fd_14_25 ⟨by decide, by decide⟩ h (fun v3 h => ?_)
  refine h_ne h (fun h hc => ?_) (fun h hc => ?_)
  · refine r_icF mx_147 li_147_10 (by decide) hc ?_
    refine EV_stq mx_147 (pc' := 15) (L' := [some (.ref p0), some (.int p1), some (.int p2), some (.int p3), some (.int p4)]) (st' := [.int p1, .ref p0]) bo_147_13_1f05a9 rfl ?_
    refine h_ck h (fun hc h => ?_)
    refine h_cV h (fun M4 e h => ?_)
    refine EV_call [.ref p0, .int p1] [] mx_147 li_147_15 rfl rfl si_14_278 rfl (by decide) (by decide) (by omega) ma_139 rfl (Nat.le_of_ble_eq_true rfl) rfl rfl (Nat.le_of_ble_eq_true rfl) (rc_1 mt_at_139 rfl rfl (by decide) hc) (e_m_closes (by omega) p0 p1 M _ e) ?_
    show EV d 147 18 [some (.ref p0), some (.int p1), some (.int p2), some (.int p3), some (.int p4)] [] M4 _
    exact e_m_puts_18 hd p0 p1 p2 p3 p4 M4 r h
  · refine r_icT mx_147 li_147_10 (by decide) rfl hc ?_
    exact e_m_puts_18 hd p0 p1 p2 p3 p4 M r h
theorem e_m_takesBarrier_20 {d : Nat} (hd : 0 ≤ d) (l0 : Nat) (s0 : Int32) (s1 : Int32) (M : Mem) (r : Int32 × Mem) (h : f_m_takesBarrier_20 l0 s0 s1 M = some r) : EV d 148 20 [some (.ref l0), none] [.int s0, .int s1] M (some (.int r.1), r.2) := by
  unfold f_m_takesBarrier_20 at h
  refine EV_stq mx_148 (pc' := 22) (L' := [some (.ref l0), none]) (st' := [.ref l0, .int (s1 + s0)]) bo_148_20_aa2fda rfl ?_
  refine r_gI mx_148 li_148_22 fd_14_32 ⟨by decide, by decide⟩ h (fun v1 h => ?_)
  refine h_ge h (fun h hc => ?_) (fun h hc => ?_)
  · refine r_icT mx_148 li_148_25 (by decide) rfl hc ?_
    refine EV_stq mx_148 (pc' := 33) (L' := [some (.ref l0), none]) (st' := [.int (0 : Int32)]) bo_148_32_191034 rfl ?_
    obtain rfl := Option.some.inj h
    exact r_ret mx_148 li_148_33 rfl (ro_nar (t := .boolean) (by decide) rfl)
  · refine r_icF mx_148 li_148_25 (by decide) hc ?_
    refine EV_stq mx_148 (pc' := 33) (L' := [some (.ref l0), none]) (st' := [.int (1 : Int32)]) bo_148_28_533662 rfl ?_
    obtain rfl := Option.some.inj h
    exact r_ret mx_148 li_148_33 rfl (ro_nar (t := .boolean) (by decide) rfl)
theorem e_m_takesBarrier {d : Nat} (hd : 0 ≤ d) (p0 : Nat) (p1 : Int32) (M : Mem) (r : Int32 × Mem) (h : f_m_takesBarrier p0 p1 M = some r) : EV d 148 0 (entL 2 [.ref p0, .int p1]) [] M (some (.int r.1), r.2) := by
  show EV d 148 0 [some (.ref p0), some (.int p1)] [] M _
  unfold f_m_takesBarrier at h
  refine EV_stq mx_148 (pc' := 1) (L' := [some (.ref p0), some (.int p1)]) (st' := [.ref p0]) bo_148_0_8d5162 rfl ?_
  refine r_gA mx_148 li_148_1 fd_14_129 rfl h (fun a1 h => ?_)
  refine EV_stq mx_148 (pc' := 5) (L' := [some (.ref p0), some (.int p1)]) (st' := [.int p1, .ref a1]) bo_148_4_e962e2 rfl ?_
  refine r_aI mx_148 li_148_5 h (fun v2 h => ?_)
  refine EV_stq mx_148 (pc' := 7) (L' := [some (.ref p0), some (.int p1)]) (st' := [.ref p0, .int v2]) bo_148_6_907e54 rfl ?_
  refine r_gA mx_148 li_148_7 fd_14_114 rfl h (fun a3 h => ?_)
  refine EV_stq mx_148 (pc' := 11) (L' := [some (.ref p0), some (.int p1)]) (st' := [.int p1, .ref a3, .int v2]) bo_148_10_2a30f5 rfl ?_
  refine r_aI mx_148 li_148_11 h (fun v4 h => ?_)
  refine h_le h (fun h hc => ?_) (fun h hc => ?_)
  · refine r_ifT mx_148 li_148_12 (by decide) rfl hc ?_
    refine EV_stq mx_148 (pc' := 20) (L' := [some (.ref p0), some (.int p1)]) (st' := [.int (0 : Int32), .int v2]) bo_148_19_1a8444 rfl ?_
    refine EV_forget (A := [some (.ref p0), none]) (lsub_of _ _ ⟨Or.inr rfl, ⟨Or.inl rfl, trivial⟩⟩) ?_
    exact e_m_takesBarrier_20 hd p0 (0 : Int32) v2 M r h
  · refine r_ifF mx_148 li_148_12 (by decide) hc ?_
    refine EV_stq mx_148 (pc' := 20) (L' := [some (.ref p0), some (.int p1)]) (st' := [.int (1 : Int32), .int v2]) bo_148_15_d45c32 rfl ?_
    refine EV_forget (A := [some (.ref p0), none]) (lsub_of _ _ ⟨Or.inr rfl, ⟨Or.inl rfl, trivial⟩⟩) ?_
    exact e_m_takesBarrier_20 hd p0 (1 : Int32) v2 M r h
theorem e_m_refusing_2 {d : Nat} (hd : 1 ≤ d) : ∀ (n : Nat) (l0 : Nat) (l1 : Int32) (l2 : Int32) (l3 : Int32) (M : Mem) (r : Int32 × Mem), f_m_refusing_2 n l0 l1 l2 l3 M = some r → EV d 149 2 [some (.ref l0), some (.int l1), some (.int l2), some (.int l3)] [] M (some (.int r.1), r.2) := by
  intro n
  induction n with
  | zero => intro l0 l1 l2 l3 M r h; cases h
  | succ n ih =>
    intro l0 l1 l2 l3 M r h
    unfold f_m_refusing_2 at h
    refine EV_stq mx_149 (pc' := 4) (L' := [some (.ref l0), some (.int l1), some (.int l2), some (.int l3)]) (st' := [.ref l0, .int l3]) bo_149_2_d916f9 rfl ?_
    refine r_gA mx_149 li_149_4 fd_14_22 rfl h (fun a1 h => ?_)
    refine EV_stq mx_149 (pc' := 10) (L' := [some (.ref l0), some (.int l1), some (.int l2), some (.int l3)]) (st' := [.int (l1 + (1 : Int32)), .ref a1, .int l3]) bo_149_7_6bece7 rfl ?_
    refine r_aI mx_149 li_149_10 h (fun v2 h => ?_)
    refine h_ge h (fun h hc => ?_) (fun h hc => ?_)
    · refine r_icT mx_149 li_149_11 (by decide) rfl hc ?_
      refine EV_stq mx_149 (pc' := 36) (L' := [some (.ref l0), some (.int l1), some (.int l2), some (.int l3)]) (st' := [.int (-1 : Int32)]) bo_149_35_a976ef rfl ?_
      obtain rfl := Option.some.inj h
      exact r_ret mx_149 li_149_36 rfl ro_int
    · refine r_icF mx_149 li_149_11 (by decide) hc ?_
      refine EV_stq mx_149 (pc' := 18) (L' := [some (.ref l0), some (.int l1), some (.int l2), some (.int l3)]) (st' := [.int l3, .int l2, .int l1, .ref l0]) bo_149_14_aedc60 rfl ?_
      refine h_cI h (fun v4 M3 e h => ?_)
      refine EV_call [.int l1, .int l2, .int l3] [.ref l0] mx_149 li_149_18 rfl rfl si_14_324 rfl (by decide) (by decide) (by omega) ma_145 rfl (Nat.le_of_ble_eq_true rfl) rfl rfl (Nat.le_of_ble_eq_true rfl) rfl (e_m_line (by omega) l1 l2 l3 M _ e) ?_
      show EV d 149 21 [some (.ref l0), some (.int l1), some (.int l2), some (.int l3)] [.int v4, .ref l0] M3 _
      refine h_ck h (fun hc h => ?_)
      refine h_cI h (fun v6 M5 e h => ?_)
      refine EV_call [.ref l0, .int v4] [] mx_149 li_149_21 rfl rfl si_14_341 rfl (by decide) (by decide) (by omega) ma_148 rfl (Nat.le_of_ble_eq_true rfl) rfl rfl (Nat.le_of_ble_eq_true rfl) (rc_1 mt_at_148 rfl rfl (by decide) hc) (e_m_takesBarrier (by omega) l0 v4 M3 _ e) ?_
      show EV d 149 24 [some (.ref l0), some (.int l1), some (.int l2), some (.int l3)] [.int v6] M5 _
      refine h_ne h (fun h hc => ?_) (fun h hc => ?_)
      · refine r_ifF mx_149 li_149_24 (by decide) hc ?_
        refine EV_stq mx_149 (pc' := 28) (L' := [some (.ref l0), some (.int l1), some (.int l2), some (.int l3)]) (st' := [.int l3]) bo_149_27_58fada rfl ?_
        obtain rfl := Option.some.inj h
        exact r_ret mx_149 li_149_28 rfl ro_int
      · refine r_ifT mx_149 li_149_24 (by decide) rfl hc ?_
        refine EV_stq mx_149 (pc' := 2) (L' := [some (.ref l0), some (.int l1), some (.int l2), some (.int (l3 + (1 : Int32)))]) (st' := []) bo_149_29_ce94c9 rfl ?_
        exact ih l0 l1 l2 (l3 + (1 : Int32)) M5 r h
theorem e_m_refusing {d : Nat} (hd : 1 ≤ d) (p0 : Nat) (p1 : Int32) (p2 : Int32) (M : Mem) (r : Int32 × Mem) (h : f_m_refusing p0 p1 p2 M = some r) : EV d 149 0 (entL 4 [.ref p0, .int p1, .int p2]) [] M (some (.int r.1), r.2) := by
  show EV d 149 0 [some (.ref p0), some (.int p1), some (.int p2), none] [] M _
  unfold f_m_refusing at h
  refine EV_stq mx_149 (pc' := 2) (L' := [some (.ref p0), some (.int p1), some (.int p2), some (.int (0 : Int32))]) (st' := []) bo_149_0_264884 rfl ?_
  exact e_m_refusing_2 hd FU p0 p1 p2 (0 : Int32) M r h
