theorem bo_200_87_ebc240 : ∀ e ∈ ([(87, .iinc 4 1, 90), (90, .lload 5, 92), (92, .aload_n 0, 93)] : List (Nat × Instr × Nat)), il_200.lookup e.1 = some e.2 := by decide +kernel
theorem li_200_93 : il_200.lookup 93 = some (.getfield 148, 96) := by decide +kernel
theorem bo_200_96_2375ef : ∀ e ∈ ([(96, .iload 4, 98)] : List (Nat × Instr × Nat)), il_200.lookup e.1 = some e.2 := by decide +kernel
theorem li_200_98 : il_200.lookup 98 = some (.iaload, 99) := by decide +kernel
theorem bo_200_99_8d51f4 : ∀ e ∈ ([(99, .i2l, 100), (100, .ladd, 101), (101, .lstore 5, 103), (103, .goto (-34), 106)] : List (Nat × Instr × Nat)), il_200.lookup e.1 = some e.2 := by decide +kernel
theorem bo_200_69_344ae9 : ∀ e ∈ ([(69, .lload 5, 71), (71, .lconst 0, 72), (72, .lcmp, 73)] : List (Nat × Instr × Nat)), il_200.lookup e.1 = some e.2 := by decide +kernel
theorem li_200_73 : il_200.lookup 73 = some (.ifCond .eq 14, 76) := by decide +kernel
theorem bo_200_76_0ac68a : ∀ e ∈ ([(76, .ldc2_w 310, 79), (79, .lload 5, 81), (81, .lmul, 82), (82, .lload_n 2, 83), (83, .lcmp, 84)] : List (Nat × Instr × Nat)), il_200.lookup e.1 = some e.2 := by decide +kernel
theorem li_200_84 : il_200.lookup 84 = some (.ifCond .ge 22, 87) := by decide +kernel
theorem bo_200_106_d939f7 : ∀ e ∈ ([(106, .iload 4, 108)] : List (Nat × Instr × Nat)), il_200.lookup e.1 = some e.2 := by decide +kernel
theorem li_200_108 : il_200.lookup 108 = some (.ireturn, 109) := by decide +kernel
theorem bo_200_0_4db342 : ∀ e ∈ ([(0, .iload_n 1, 1), (1, .bipush (-2), 3), (3, .bipush 100, 5)] : List (Nat × Instr × Nat)), il_200.lookup e.1 = some e.2 := by decide +kernel
theorem li_200_5 : il_200.lookup 5 = some (.invokestatic 203, 8) := by decide +kernel
theorem li_200_8 : il_200.lookup 8 = some (.ifCond .ne 6, 11) := by decide +kernel
theorem bo_200_14_3e81ce : ∀ e ∈ ([(14, .aload_n 0, 15)] : List (Nat × Instr × Nat)), il_200.lookup e.1 = some e.2 := by decide +kernel
theorem li_200_15 : il_200.lookup 15 = some (.getfield 246, 18) := by decide +kernel
theorem li_200_18 : il_200.lookup 18 = some (.ifCond .ne 7, 21) := by decide +kernel
theorem bo_200_25_1858f6 : ∀ e ∈ ([(25, .iload_n 1, 26)] : List (Nat × Instr × Nat)), il_200.lookup e.1 = some e.2 := by decide +kernel
theorem li_200_26 : il_200.lookup 26 = some (.ifCond .ge 22, 29) := by decide +kernel
theorem bo_200_48_f3f7cd : ∀ e ∈ ([(48, .iload_n 1, 49), (49, .i2l, 50), (50, .aload_n 0, 51)] : List (Nat × Instr × Nat)), il_200.lookup e.1 = some e.2 := by decide +kernel
theorem li_200_51 : il_200.lookup 51 = some (.getfield 246, 54) := by decide +kernel
theorem bo_200_54_001ca7 : ∀ e ∈ ([(54, .i2l, 55), (55, .lmul, 56), (56, .lstore_n 2, 57), (57, .iconst 0, 58), (58, .istore 4, 60), (60, .aload_n 0, 61)] : List (Nat × Instr × Nat)), il_200.lookup e.1 = some e.2 := by decide +kernel
theorem li_200_61 : il_200.lookup 61 = some (.getfield 148, 64) := by decide +kernel
theorem bo_200_64_446f01 : ∀ e ∈ ([(64, .iconst 0, 65)] : List (Nat × Instr × Nat)), il_200.lookup e.1 = some e.2 := by decide +kernel
theorem li_200_65 : il_200.lookup 65 = some (.iaload, 66) := by decide +kernel
theorem bo_200_66_b88f8a : ∀ e ∈ ([(66, .i2l, 67), (67, .lstore 5, 69)] : List (Nat × Instr × Nat)), il_200.lookup e.1 = some e.2 := by decide +kernel
theorem bo_200_29_2746c1 : ∀ e ∈ ([(29, .iload_n 1, 30), (30, .bipush (-2), 32)] : List (Nat × Instr × Nat)), il_200.lookup e.1 = some e.2 := by decide +kernel
theorem li_200_32 : il_200.lookup 32 = some (.if_icmp .ne 11, 35) := by decide +kernel
theorem bo_200_43_d85b47 : ∀ e ∈ ([(43, .aload_n 0, 44)] : List (Nat × Instr × Nat)), il_200.lookup e.1 = some e.2 := by decide +kernel
theorem li_200_44 : il_200.lookup 44 = some (.getfield 246, 47) := by decide +kernel
theorem li_200_47 : il_200.lookup 47 = some (.ireturn, 48) := by decide +kernel
theorem bo_200_35_a976ef : ∀ e ∈ ([(35, .aload_n 0, 36)] : List (Nat × Instr × Nat)), il_200.lookup e.1 = some e.2 := by decide +kernel
theorem li_200_36 : il_200.lookup 36 = some (.getfield 249, 39) := by decide +kernel
theorem bo_200_39_9c41c6 : ∀ e ∈ ([(39, .l2i, 40), (40, .goto 7, 43)] : List (Nat × Instr × Nat)), il_200.lookup e.1 = some e.2 := by decide +kernel
theorem bo_200_21_46c79c : ∀ e ∈ ([(21, .ldc_w 309, 24)] : List (Nat × Instr × Nat)), il_200.lookup e.1 = some e.2 := by decide +kernel
theorem li_200_24 : il_200.lookup 24 = some (.ireturn, 25) := by decide +kernel
theorem bo_200_11_081257 : ∀ e ∈ ([(11, .ldc 207, 13)] : List (Nat × Instr × Nat)), il_200.lookup e.1 = some e.2 := by decide +kernel
theorem li_200_13 : il_200.lookup 13 = some (.ireturn, 14) := by decide +kernel
theorem bo_201_56_82c6bd : ∀ e ∈ ([(56, .iload 7, 58), (58, .iload 6, 60)] : List (Nat × Instr × Nat)), il_201.lookup e.1 = some e.2 := by decide +kernel
theorem li_201_60 : il_201.lookup 60 = some (.if_icmp .ge 30, 63) := by decide +kernel
theorem li_201_90 : il_201.lookup 90 = some (.return_, 91) := by decide +kernel
theorem bo_201_63_278a0b : ∀ e ∈ ([(63, .aload_n 0, 64), (64, .iload_n 1, 65), (65, .iconst 1, 66), (66, .iadd, 67), (67, .aload 5, 69), (69, .iload 7, 71)] : List (Nat × Instr × Nat)), il_201.lookup e.1 = some e.2 := by decide +kernel
theorem li_201_71 : il_201.lookup 71 = some (.invokevirtual 49, 74) := by decide +kernel
theorem bo_201_74_b63ff7 : ∀ e ∈ ([(74, .aload 5, 76), (76, .iload 7, 78)] : List (Nat × Instr × Nat)), il_201.lookup e.1 = some e.2 := by decide +kernel
theorem li_201_78 : il_201.lookup 78 = some (.invokevirtual 55, 81) := by decide +kernel
theorem li_201_81 : il_201.lookup 81 = some (.invokestatic 58, 84) := by decide +kernel
theorem bo_201_84_9d3963 : ∀ e ∈ ([(84, .iinc 7 1, 87), (87, .goto (-31), 90)] : List (Nat × Instr × Nat)), il_201.lookup e.1 = some e.2 := by decide +kernel
theorem bo_201_0_264884 : ∀ e ∈ ([(0, .aload_n 0, 1), (1, .iload_n 1, 2)] : List (Nat × Instr × Nat)), il_201.lookup e.1 = some e.2 := by decide +kernel
theorem li_201_2 : il_201.lookup 2 = some (.invokevirtual 24, 5) := by decide +kernel
theorem bo_201_5_636245 : ∀ e ∈ ([(5, .astore 4, 7), (7, .iload_n 1, 8), (8, .bipush 6, 10)] : List (Nat × Instr × Nat)), il_201.lookup e.1 = some e.2 := by decide +kernel
theorem li_201_10 : il_201.lookup 10 = some (.if_icmp .ge 8, 13) := by decide +kernel
theorem li_201_18 : il_201.lookup 18 = some (.return_, 19) := by decide +kernel
theorem bo_201_13_839647 : ∀ e ∈ ([(13, .aload 4, 15), (15, .ifnonnull 4, 18)] : List (Nat × Instr × Nat)), il_201.lookup e.1 = some e.2 := by decide +kernel
theorem bo_201_13_39500c : ∀ e ∈ ([(13, .aload 4, 15), (15, .ifnonnull 4, 18), (19, .aload 4, 21)] : List (Nat × Instr × Nat)), il_201.lookup e.1 = some e.2 := by decide +kernel
theorem li_201_21 : il_201.lookup 21 = some (.getfield 62, 24) := by decide +kernel
theorem bo_201_24_c12fcd : ∀ e ∈ ([(24, .astore 5, 26), (26, .aload 5, 28)] : List (Nat × Instr × Nat)), il_201.lookup e.1 = some e.2 := by decide +kernel
theorem li_201_28 : il_201.lookup 28 = some (.invokevirtual 65, 31) := by decide +kernel
theorem bo_201_31_83c126 : ∀ e ∈ ([(31, .aload 4, 33), (33, .aload 4, 35)] : List (Nat × Instr × Nat)), il_201.lookup e.1 = some e.2 := by decide +kernel
theorem li_201_35 : il_201.lookup 35 = some (.getfield 28, 38) := by decide +kernel
theorem bo_201_38_883a8f : ∀ e ∈ ([(38, .iload_n 2, 39), (39, .iload_n 3, 40), (40, .iconst 0, 41), (41, .aload 5, 43)] : List (Nat × Instr × Nat)), il_201.lookup e.1 = some e.2 := by decide +kernel
theorem li_201_43 : il_201.lookup 43 = some (.invokevirtual 66, 46) := by decide +kernel
theorem bo_201_46_4b02d4 : ∀ e ∈ ([(46, .aload 5, 48)] : List (Nat × Instr × Nat)), il_201.lookup e.1 = some e.2 := by decide +kernel
theorem li_201_48 : il_201.lookup 48 = some (.getfield 70, 51) := by decide +kernel
theorem bo_201_51_6f0c29 : ∀ e ∈ ([(51, .istore 6, 53), (53, .iconst 0, 54), (54, .istore 7, 56)] : List (Nat × Instr × Nat)), il_201.lookup e.1 = some e.2 := by decide +kernel
theorem bo_202_31_f6932f : ∀ e ∈ ([(31, .iload_n 2, 32), (32, .aload_n 0, 33)] : List (Nat × Instr × Nat)), il_202.lookup e.1 = some e.2 := by decide +kernel
theorem li_202_33 : il_202.lookup 33 = some (.getfield 9, 36) := by decide +kernel
theorem li_202_36 : il_202.lookup 36 = some (.getfield 39, 39) := by decide +kernel
theorem li_202_39 : il_202.lookup 39 = some (.if_icmp .ge 27, 42) := by decide +kernel
theorem bo_202_66_b88f8a : ∀ e ∈ ([(66, .aload_n 0, 67), (67, .aload_n 0, 68)] : List (Nat × Instr × Nat)), il_202.lookup e.1 = some e.2 := by decide +kernel
theorem li_202_68 : il_202.lookup 68 = some (.getfield 9, 71) := by decide +kernel
theorem li_202_71 : il_202.lookup 71 = some (.getfield 39, 74) := by decide +kernel
theorem li_202_74 : il_202.lookup 74 = some (.putfield 15, 77) := by decide +kernel
theorem li_202_77 : il_202.lookup 77 = some (.return_, 78) := by decide +kernel
theorem bo_202_42_b358e7 : ∀ e ∈ ([(42, .aload_n 0, 43)] : List (Nat × Instr × Nat)), il_202.lookup e.1 = some e.2 := by decide +kernel
theorem li_202_43 : il_202.lookup 43 = some (.getfield 9, 46) := by decide +kernel
theorem bo_202_46_2efbd7 : ∀ e ∈ ([(46, .iconst 1, 47), (47, .aload_n 1, 48), (48, .iload_n 2, 49)] : List (Nat × Instr × Nat)), il_202.lookup e.1 = some e.2 := by decide +kernel
theorem li_202_49 : il_202.lookup 49 = some (.invokevirtual 49, 52) := by decide +kernel
theorem bo_202_52_9f6391 : ∀ e ∈ ([(52, .aload_n 1, 53), (53, .iload_n 2, 54)] : List (Nat × Instr × Nat)), il_202.lookup e.1 = some e.2 := by decide +kernel
theorem li_202_54 : il_202.lookup 54 = some (.invokevirtual 55, 57) := by decide +kernel
theorem li_202_57 : il_202.lookup 57 = some (.invokestatic 58, 60) := by decide +kernel
theorem bo_202_60_273e85 : ∀ e ∈ ([(60, .iinc 2 1, 63), (63, .goto (-32), 66)] : List (Nat × Instr × Nat)), il_202.lookup e.1 = some e.2 := by decide +kernel
theorem bo_202_18_2b31d8 : ∀ e ∈ ([(18, .aload_n 0, 19)] : List (Nat × Instr × Nat)), il_202.lookup e.1 = some e.2 := by decide +kernel
theorem li_202_19 : il_202.lookup 19 = some (.getfield 9, 22) := by decide +kernel
theorem li_202_22 : il_202.lookup 22 = some (.getfield 45, 25) := by decide +kernel
theorem bo_202_25_6328ed : ∀ e ∈ ([(25, .astore_n 1, 26), (26, .aload_n 0, 27)] : List (Nat × Instr × Nat)), il_202.lookup e.1 = some e.2 := by decide +kernel
theorem li_202_27 : il_202.lookup 27 = some (.getfield 15, 30) := by decide +kernel
theorem bo_202_30_0b4e4a : ∀ e ∈ ([(30, .istore_n 2, 31)] : List (Nat × Instr × Nat)), il_202.lookup e.1 = some e.2 := by decide +kernel
theorem bo_202_0_8d5162 : ∀ e ∈ ([(0, .aload_n 0, 1)] : List (Nat × Instr × Nat)), il_202.lookup e.1 = some e.2 := by decide +kernel
theorem li_202_1 : il_202.lookup 1 = some (.getfield 15, 4) := by decide +kernel
theorem bo_202_4_e962e2 : ∀ e ∈ ([(4, .aload_n 0, 5)] : List (Nat × Instr × Nat)), il_202.lookup e.1 = some e.2 := by decide +kernel
theorem li_202_5 : il_202.lookup 5 = some (.getfield 9, 8) := by decide +kernel
theorem li_202_8 : il_202.lookup 8 = some (.getfield 39, 11) := by decide +kernel
theorem li_202_11 : il_202.lookup 11 = some (.if_icmp .le 7, 14) := by decide +kernel
theorem bo_202_14_3e81ce : ∀ e ∈ ([(14, .aload_n 0, 15)] : List (Nat × Instr × Nat)), il_202.lookup e.1 = some e.2 := by decide +kernel
theorem li_202_15 : il_202.lookup 15 = some (.invokevirtual 42, 18) := by decide +kernel
theorem bo_203_0_8d5162 : ∀ e ∈ ([(0, .aload_n 0, 1)] : List (Nat × Instr × Nat)), il_203.lookup e.1 = some e.2 := by decide +kernel
theorem li_203_1 : il_203.lookup 1 = some (.getfield 31, 4) := by decide +kernel
theorem bo_203_4_e962e2 : ∀ e ∈ ([(4, .aload_n 0, 5)] : List (Nat × Instr × Nat)), il_203.lookup e.1 = some e.2 := by decide +kernel
theorem li_203_5 : il_203.lookup 5 = some (.getfield 31, 8) := by decide +kernel
theorem li_203_8 : il_203.lookup 8 = some (.getfield 80, 11) := by decide +kernel
theorem bo_203_11_274bbd : ∀ e ∈ ([(11, .iconst 1, 12), (12, .iadd, 13)] : List (Nat × Instr × Nat)), il_203.lookup e.1 = some e.2 := by decide +kernel
theorem li_203_13 : il_203.lookup 13 = some (.invokevirtual 133, 16) := by decide +kernel
theorem bo_203_16_754a04 : ∀ e ∈ ([(16, .astore_n 3, 17), (17, .aload_n 3, 18), (18, .ifnonnull 6, 21), (21, .ldc 137, 23)] : List (Nat × Instr × Nat)), il_203.lookup e.1 = some e.2 := by decide +kernel
theorem li_203_23 : il_203.lookup 23 = some (.ireturn, 24) := by decide +kernel
theorem bo_203_16_8aca17 : ∀ e ∈ ([(16, .astore_n 3, 17), (17, .aload_n 3, 18), (18, .ifnonnull 6, 21), (24, .aload_n 0, 25)] : List (Nat × Instr × Nat)), il_203.lookup e.1 = some e.2 := by decide +kernel
theorem li_203_25 : il_203.lookup 25 = some (.getfield 40, 28) := by decide +kernel
theorem li_203_28 : il_203.lookup 28 = some (.invokevirtual 256, 31) := by decide +kernel
theorem bo_203_31_c379e3 : ∀ e ∈ ([(31, .aload_n 3, 32)] : List (Nat × Instr × Nat)), il_203.lookup e.1 = some e.2 := by decide +kernel
theorem li_203_32 : il_203.lookup 32 = some (.getfield 259, 35) := by decide +kernel
theorem bo_203_35_b49e7d : ∀ e ∈ ([(35, .iload_n 1, 36), (36, .iload_n 2, 37)] : List (Nat × Instr × Nat)), il_203.lookup e.1 = some e.2 := by decide +kernel
theorem li_203_37 : il_203.lookup 37 = some (.invokestatic 234, 40) := by decide +kernel
theorem li_203_40 : il_203.lookup 40 = some (.ireturn, 41) := by decide +kernel
theorem bo_204_115_b9a51b : ∀ e ∈ ([(115, .iload 4, 117)] : List (Nat × Instr × Nat)), il_204.lookup e.1 = some e.2 := by decide +kernel
theorem li_204_117 : il_204.lookup 117 = some (.ifCond .lt 47, 120) := by decide +kernel
theorem bo_204_164_360521 : ∀ e ∈ ([(164, .goto (-100), 167)] : List (Nat × Instr × Nat)), il_204.lookup e.1 = some e.2 := by decide +kernel
theorem bo_204_120_9b2503 : ∀ e ∈ ([(120, .aload_n 0, 121)] : List (Nat × Instr × Nat)), il_204.lookup e.1 = some e.2 := by decide +kernel
theorem li_204_121 : il_204.lookup 121 = some (.getfield 178, 124) := by decide +kernel
theorem bo_204_124_9bd989 : ∀ e ∈ ([(124, .iload_n 2, 125), (125, .iload_n 3, 126), (126, .iconst 1, 127), (127, .iadd, 128)] : List (Nat × Instr × Nat)), il_204.lookup e.1 = some e.2 := by decide +kernel
theorem li_204_128 : il_204.lookup 128 = some (.iastore, 129) := by decide +kernel
theorem bo_204_129_624512 : ∀ e ∈ ([(129, .aload_n 0, 130)] : List (Nat × Instr × Nat)), il_204.lookup e.1 = some e.2 := by decide +kernel
theorem li_204_130 : il_204.lookup 130 = some (.getfield 181, 133) := by decide +kernel
theorem bo_204_133_053401 : ∀ e ∈ ([(133, .iload_n 2, 134), (134, .aload_n 0, 135)] : List (Nat × Instr × Nat)), il_204.lookup e.1 = some e.2 := by decide +kernel
theorem li_204_135 : il_204.lookup 135 = some (.getfield 163, 138) := by decide +kernel
theorem bo_204_138_dc044b : ∀ e ∈ ([(138, .iload 4, 140)] : List (Nat × Instr × Nat)), il_204.lookup e.1 = some e.2 := by decide +kernel
theorem li_204_140 : il_204.lookup 140 = some (.iaload, 141) := by decide +kernel
theorem li_204_141 : il_204.lookup 141 = some (.iastore, 142) := by decide +kernel
theorem bo_204_142_5324d1 : ∀ e ∈ ([(142, .aload_n 0, 143)] : List (Nat × Instr × Nat)), il_204.lookup e.1 = some e.2 := by decide +kernel
theorem li_204_143 : il_204.lookup 143 = some (.getfield 184, 146) := by decide +kernel
theorem bo_204_146_b04cb9 : ∀ e ∈ ([(146, .iload_n 2, 147), (147, .aload_n 0, 148)] : List (Nat × Instr × Nat)), il_204.lookup e.1 = some e.2 := by decide +kernel
theorem li_204_148 : il_204.lookup 148 = some (.getfield 166, 151) := by decide +kernel
theorem bo_204_151_b28053 : ∀ e ∈ ([(151, .iload 4, 153)] : List (Nat × Instr × Nat)), il_204.lookup e.1 = some e.2 := by decide +kernel
theorem li_204_153 : il_204.lookup 153 = some (.iaload, 154) := by decide +kernel
theorem li_204_154 : il_204.lookup 154 = some (.iastore, 155) := by decide +kernel
theorem bo_204_155_6769de : ∀ e ∈ ([(155, .iinc 2 1, 158), (158, .iinc 4 (-1), 161), (161, .goto (-46), 164)] : List (Nat × Instr × Nat)), il_204.lookup e.1 = some e.2 := by decide +kernel
theorem bo_204_64_446f01 : ∀ e ∈ ([(64, .iload_n 2, 65)] : List (Nat × Instr × Nat)), il_204.lookup e.1 = some e.2 := by decide +kernel
theorem li_204_65 : il_204.lookup 65 = some (.ifCond .le 102, 68) := by decide +kernel
theorem bo_204_167_a6c2da : ∀ e ∈ ([(167, .iinc 1 1, 170), (170, .goto (-147), 173)] : List (Nat × Instr × Nat)), il_204.lookup e.1 = some e.2 := by decide +kernel
theorem bo_204_68_ab375b : ∀ e ∈ ([(68, .iinc 2 (-1), 71), (71, .aload_n 0, 72)] : List (Nat × Instr × Nat)), il_204.lookup e.1 = some e.2 := by decide +kernel
theorem li_204_72 : il_204.lookup 72 = some (.getfield 178, 75) := by decide +kernel
theorem bo_204_75_1f1f88 : ∀ e ∈ ([(75, .iload_n 2, 76)] : List (Nat × Instr × Nat)), il_204.lookup e.1 = some e.2 := by decide +kernel
theorem li_204_76 : il_204.lookup 76 = some (.iaload, 77) := by decide +kernel
theorem bo_204_77_0f3e72 : ∀ e ∈ ([(77, .istore_n 3, 78), (78, .aload_n 0, 79), (79, .iload_n 3, 80), (80, .aload_n 0, 81)] : List (Nat × Instr × Nat)), il_204.lookup e.1 = some e.2 := by decide +kernel
theorem li_204_81 : il_204.lookup 81 = some (.getfield 181, 84) := by decide +kernel
theorem bo_204_84_8a7630 : ∀ e ∈ ([(84, .iload_n 2, 85)] : List (Nat × Instr × Nat)), il_204.lookup e.1 = some e.2 := by decide +kernel
theorem li_204_85 : il_204.lookup 85 = some (.iaload, 86) := by decide +kernel
theorem bo_204_86_bff005 : ∀ e ∈ ([(86, .aload_n 0, 87)] : List (Nat × Instr × Nat)), il_204.lookup e.1 = some e.2 := by decide +kernel
theorem li_204_87 : il_204.lookup 87 = some (.getfield 184, 90) := by decide +kernel
theorem bo_204_90_d3b5bf : ∀ e ∈ ([(90, .iload_n 2, 91)] : List (Nat × Instr × Nat)), il_204.lookup e.1 = some e.2 := by decide +kernel
theorem li_204_91 : il_204.lookup 91 = some (.iaload, 92) := by decide +kernel
theorem bo_204_92_b12865 : ∀ e ∈ ([(92, .aload_n 0, 93)] : List (Nat × Instr × Nat)), il_204.lookup e.1 = some e.2 := by decide +kernel
theorem li_204_93 : il_204.lookup 93 = some (.getfield 169, 96) := by decide +kernel
theorem bo_204_96_2375ef : ∀ e ∈ ([(96, .aload_n 0, 97)] : List (Nat × Instr × Nat)), il_204.lookup e.1 = some e.2 := by decide +kernel
theorem li_204_97 : il_204.lookup 97 = some (.getfield 172, 100) := by decide +kernel
theorem bo_204_100_5dd146 : ∀ e ∈ ([(100, .aload_n 0, 101)] : List (Nat × Instr × Nat)), il_204.lookup e.1 = some e.2 := by decide +kernel
theorem li_204_101 : il_204.lookup 101 = some (.getfield 175, 104) := by decide +kernel
theorem li_204_104 : il_204.lookup 104 = some (.invokevirtual 301, 107) := by decide +kernel
theorem bo_204_107_0ab20e : ∀ e ∈ ([(107, .aload_n 0, 108)] : List (Nat × Instr × Nat)), il_204.lookup e.1 = some e.2 := by decide +kernel
theorem li_204_108 : il_204.lookup 108 = some (.getfield 291, 111) := by decide +kernel
theorem bo_204_111_fafd5d : ∀ e ∈ ([(111, .iconst 1, 112), (112, .isub, 113), (113, .istore 4, 115)] : List (Nat × Instr × Nat)), il_204.lookup e.1 = some e.2 := by decide +kernel
theorem bo_204_23_31ad6f : ∀ e ∈ ([(23, .iload_n 1, 24), (24, .aload_n 0, 25)] : List (Nat × Instr × Nat)), il_204.lookup e.1 = some e.2 := by decide +kernel
theorem li_204_25 : il_204.lookup 25 = some (.getfield 271, 28) := by decide +kernel
theorem li_204_28 : il_204.lookup 28 = some (.if_icmp .ge 145, 31) := by decide +kernel
theorem li_204_173 : il_204.lookup 173 = some (.return_, 174) := by decide +kernel
theorem bo_204_31_d48d79 : ∀ e ∈ ([(31, .iconst 1, 32), (32, .istore_n 2, 33), (33, .aload_n 0, 34)] : List (Nat × Instr × Nat)), il_204.lookup e.1 = some e.2 := by decide +kernel
theorem li_204_34 : il_204.lookup 34 = some (.getfield 178, 37) := by decide +kernel
theorem bo_204_37_b7e9cc : ∀ e ∈ ([(37, .iconst 0, 38), (38, .iconst 1, 39)] : List (Nat × Instr × Nat)), il_204.lookup e.1 = some e.2 := by decide +kernel
theorem li_204_39 : il_204.lookup 39 = some (.iastore, 40) := by decide +kernel
theorem bo_204_40_d0cc5b : ∀ e ∈ ([(40, .aload_n 0, 41)] : List (Nat × Instr × Nat)), il_204.lookup e.1 = some e.2 := by decide +kernel
theorem li_204_41 : il_204.lookup 41 = some (.getfield 181, 44) := by decide +kernel
theorem bo_204_44_e175ea : ∀ e ∈ ([(44, .iconst 0, 45), (45, .aload_n 0, 46)] : List (Nat × Instr × Nat)), il_204.lookup e.1 = some e.2 := by decide +kernel
theorem li_204_46 : il_204.lookup 46 = some (.getfield 38, 49) := by decide +kernel
theorem bo_204_49_e052b7 : ∀ e ∈ ([(49, .iload_n 1, 50)] : List (Nat × Instr × Nat)), il_204.lookup e.1 = some e.2 := by decide +kernel
theorem li_204_50 : il_204.lookup 50 = some (.iaload, 51) := by decide +kernel
theorem li_204_51 : il_204.lookup 51 = some (.iastore, 52) := by decide +kernel
theorem bo_204_52_118d3f : ∀ e ∈ ([(52, .aload_n 0, 53)] : List (Nat × Instr × Nat)), il_204.lookup e.1 = some e.2 := by decide +kernel
theorem li_204_53 : il_204.lookup 53 = some (.getfield 184, 56) := by decide +kernel
theorem bo_204_56_ba4435 : ∀ e ∈ ([(56, .iconst 0, 57), (57, .aload_n 0, 58)] : List (Nat × Instr × Nat)), il_204.lookup e.1 = some e.2 := by decide +kernel
theorem li_204_58 : il_204.lookup 58 = some (.getfield 41, 61) := by decide +kernel
theorem bo_204_61_769b30 : ∀ e ∈ ([(61, .iload_n 1, 62)] : List (Nat × Instr × Nat)), il_204.lookup e.1 = some e.2 := by decide +kernel
theorem li_204_62 : il_204.lookup 62 = some (.iaload, 63) := by decide +kernel
theorem li_204_63 : il_204.lookup 63 = some (.iastore, 64) := by decide +kernel
theorem bo_204_2_d916f9 : ∀ e ∈ ([(2, .iload_n 1, 3), (3, .bipush 96, 5)] : List (Nat × Instr × Nat)), il_204.lookup e.1 = some e.2 := by decide +kernel
theorem li_204_5 : il_204.lookup 5 = some (.if_icmp .ge 16, 8) := by decide +kernel
theorem bo_204_21_13696e : ∀ e ∈ ([(21, .iconst 0, 22), (22, .istore_n 1, 23)] : List (Nat × Instr × Nat)), il_204.lookup e.1 = some e.2 := by decide +kernel
theorem bo_204_8_383530 : ∀ e ∈ ([(8, .aload_n 0, 9)] : List (Nat × Instr × Nat)), il_204.lookup e.1 = some e.2 := by decide +kernel
theorem li_204_9 : il_204.lookup 9 = some (.getfield 169, 12) := by decide +kernel
theorem bo_204_12_1089ca : ∀ e ∈ ([(12, .iload_n 1, 13), (13, .iconst 0, 14)] : List (Nat × Instr × Nat)), il_204.lookup e.1 = some e.2 := by decide +kernel
theorem li_204_14 : il_204.lookup 14 = some (.bastore, 15) := by decide +kernel
theorem bo_204_15_a5e079 : ∀ e ∈ ([(15, .iinc 1 1, 18), (18, .goto (-16), 21)] : List (Nat × Instr × Nat)), il_204.lookup e.1 = some e.2 := by decide +kernel
theorem bo_204_0_264884 : ∀ e ∈ ([(0, .iconst 0, 1), (1, .istore_n 1, 2)] : List (Nat × Instr × Nat)), il_204.lookup e.1 = some e.2 := by decide +kernel
theorem bo_205_0_8d5162 : ∀ e ∈ ([(0, .aload_n 0, 1)] : List (Nat × Instr × Nat)), il_205.lookup e.1 = some e.2 := by decide +kernel
theorem li_205_1 : il_205.lookup 1 = some (.invokevirtual 390, 4) := by decide +kernel
theorem bo_205_4_40e659 : ∀ e ∈ ([(4, .aload_n 0, 5), (5, .aload_n 0, 6)] : List (Nat × Instr × Nat)), il_205.lookup e.1 = some e.2 := by decide +kernel
theorem li_205_6 : il_205.lookup 6 = some (.invokevirtual 199, 9) := by decide +kernel
theorem bo_205_9_94b225 : ∀ e ∈ ([(9, .iload_n 1, 10), (10, .iload_n 2, 11), (11, .aload_n 0, 12)] : List (Nat × Instr × Nat)), il_205.lookup e.1 = some e.2 := by decide +kernel
theorem li_205_12 : il_205.lookup 12 = some (.getfield 169, 15) := by decide +kernel
theorem bo_205_15_be4250 : ∀ e ∈ ([(15, .aload_n 0, 16)] : List (Nat × Instr × Nat)), il_205.lookup e.1 = some e.2 := by decide +kernel
theorem li_205_16 : il_205.lookup 16 = some (.getfield 172, 19) := by decide +kernel
theorem bo_205_19_1a8444 : ∀ e ∈ ([(19, .aload_n 0, 20)] : List (Nat × Instr × Nat)), il_205.lookup e.1 = some e.2 := by decide +kernel
theorem li_205_20 : il_205.lookup 20 = some (.getfield 175, 23) := by decide +kernel
theorem li_205_23 : il_205.lookup 23 = some (.invokevirtual 386, 26) := by decide +kernel
theorem li_205_26 : il_205.lookup 26 = some (.ireturn, 27) := by decide +kernel
theorem bo_206_72_c0ffc8 : ∀ e ∈ ([(72, .iload_n 1, 73)] : List (Nat × Instr × Nat)), il_206.lookup e.1 = some e.2 := by decide +kernel
theorem li_206_73 : il_206.lookup 73 = some (.ifCond .ne 29, 76) := by decide +kernel
theorem bo_206_102_097908 : ∀ e ∈ ([(102, .aload_n 0, 103)] : List (Nat × Instr × Nat)), il_206.lookup e.1 = some e.2 := by decide +kernel
theorem li_206_103 : il_206.lookup 103 = some (.getfield 18, 106) := by decide +kernel
theorem bo_206_106_9c4b38 : ∀ e ∈ ([(106, .iload_n 1, 107), (107, .iload_n 2, 108)] : List (Nat × Instr × Nat)), il_206.lookup e.1 = some e.2 := by decide +kernel
theorem li_206_108 : il_206.lookup 108 = some (.invokevirtual 75, 111) := by decide +kernel
theorem li_206_111 : il_206.lookup 111 = some (.ifCond .lt 5, 114) := by decide +kernel
theorem bo_206_116_8dd5ec : ∀ e ∈ ([(116, .aload_n 3, 117)] : List (Nat × Instr × Nat)), il_206.lookup e.1 = some e.2 := by decide +kernel
theorem li_206_117 : il_206.lookup 117 = some (.getfield 78, 120) := by decide +kernel
theorem li_206_120 : il_206.lookup 120 = some (.ifCond .eq 7, 123) := by decide +kernel
theorem bo_206_127_244a0d : ∀ e ∈ ([(127, .iconst 4, 128)] : List (Nat × Instr × Nat)), il_206.lookup e.1 = some e.2 := by decide +kernel
theorem li_206_128 : il_206.lookup 128 = some (.ireturn, 129) := by decide +kernel
theorem bo_206_123_30aefa : ∀ e ∈ ([(123, .iconst 3, 124), (124, .goto 4, 127)] : List (Nat × Instr × Nat)), il_206.lookup e.1 = some e.2 := by decide +kernel
theorem bo_206_114_28d19b : ∀ e ∈ ([(114, .iconst 5, 115)] : List (Nat × Instr × Nat)), il_206.lookup e.1 = some e.2 := by decide +kernel
theorem li_206_115 : il_206.lookup 115 = some (.ireturn, 116) := by decide +kernel
theorem bo_206_76_1522cc : ∀ e ∈ ([(76, .aload_n 0, 77)] : List (Nat × Instr × Nat)), il_206.lookup e.1 = some e.2 := by decide +kernel
theorem li_206_77 : il_206.lookup 77 = some (.getfield 18, 80) := by decide +kernel
theorem li_206_80 : il_206.lookup 80 = some (.getfield 63, 83) := by decide +kernel
theorem bo_206_83_dbc641 : ∀ e ∈ ([(83, .aload_n 0, 84)] : List (Nat × Instr × Nat)), il_206.lookup e.1 = some e.2 := by decide +kernel
theorem li_206_84 : il_206.lookup 84 = some (.getfield 18, 87) := by decide +kernel
theorem li_206_87 : il_206.lookup 87 = some (.getfield 66, 90) := by decide +kernel
theorem li_206_90 : il_206.lookup 90 = some (.getfield 70, 93) := by decide +kernel
theorem li_206_93 : il_206.lookup 93 = some (.if_icmp .ge 7, 96) := by decide +kernel
theorem bo_206_100_5dd146 : ∀ e ∈ ([(100, .iconst 4, 101)] : List (Nat × Instr × Nat)), il_206.lookup e.1 = some e.2 := by decide +kernel
theorem li_206_101 : il_206.lookup 101 = some (.ireturn, 102) := by decide +kernel
theorem bo_206_96_31fd26 : ∀ e ∈ ([(96, .iconst 5, 97), (97, .goto 4, 100)] : List (Nat × Instr × Nat)), il_206.lookup e.1 = some e.2 := by decide +kernel
theorem bo_206_51_93c172 : ∀ e ∈ ([(51, .aload_n 3, 52)] : List (Nat × Instr × Nat)), il_206.lookup e.1 = some e.2 := by decide +kernel
theorem li_206_52 : il_206.lookup 52 = some (.getfield 54, 55) := by decide +kernel
theorem li_206_55 : il_206.lookup 55 = some (.ifCond .eq 17, 58) := by decide +kernel
theorem bo_206_58_df393a : ∀ e ∈ ([(58, .aload_n 0, 59)] : List (Nat × Instr × Nat)), il_206.lookup e.1 = some e.2 := by decide +kernel
theorem li_206_59 : il_206.lookup 59 = some (.getfield 18, 62) := by decide +kernel
theorem bo_206_62_322124 : ∀ e ∈ ([(62, .iload_n 1, 63), (63, .iload_n 2, 64)] : List (Nat × Instr × Nat)), il_206.lookup e.1 = some e.2 := by decide +kernel
theorem li_206_64 : il_206.lookup 64 = some (.invokevirtual 60, 67) := by decide +kernel
theorem li_206_67 : il_206.lookup 67 = some (.ifCond .lt 5, 70) := by decide +kernel
theorem bo_206_70_a81b5d : ∀ e ∈ ([(70, .iconst 2, 71)] : List (Nat × Instr × Nat)), il_206.lookup e.1 = some e.2 := by decide +kernel
theorem li_206_71 : il_206.lookup 71 = some (.ireturn, 72) := by decide +kernel
theorem bo_206_0_8d5162 : ∀ e ∈ ([(0, .aload_n 0, 1)] : List (Nat × Instr × Nat)), il_206.lookup e.1 = some e.2 := by decide +kernel
theorem li_206_1 : il_206.lookup 1 = some (.getfield 18, 4) := by decide +kernel
theorem bo_206_4_40e659 : ∀ e ∈ ([(4, .iload_n 1, 5), (5, .iload_n 2, 6)] : List (Nat × Instr × Nat)), il_206.lookup e.1 = some e.2 := by decide +kernel
theorem li_206_6 : il_206.lookup 6 = some (.invokevirtual 34, 9) := by decide +kernel
theorem bo_206_9_681304 : ∀ e ∈ ([(9, .astore_n 3, 10), (10, .aload_n 3, 11), (11, .ifnonnull 5, 14), (14, .iconst 5, 15)] : List (Nat × Instr × Nat)), il_206.lookup e.1 = some e.2 := by decide +kernel
theorem li_206_15 : il_206.lookup 15 = some (.ireturn, 16) := by decide +kernel
theorem bo_206_9_a5256b : ∀ e ∈ ([(9, .astore_n 3, 10), (10, .aload_n 3, 11), (11, .ifnonnull 5, 14), (16, .aload_n 0, 17)] : List (Nat × Instr × Nat)), il_206.lookup e.1 = some e.2 := by decide +kernel
theorem li_206_17 : il_206.lookup 17 = some (.getfield 18, 20) := by decide +kernel
theorem bo_206_20_638673 : ∀ e ∈ ([(20, .iload_n 1, 21), (21, .iload_n 2, 22), (22, .aload_n 0, 23)] : List (Nat × Instr × Nat)), il_206.lookup e.1 = some e.2 := by decide +kernel
theorem li_206_23 : il_206.lookup 23 = some (.getfield 18, 26) := by decide +kernel
theorem bo_206_26_539da0 : ∀ e ∈ ([(26, .iload_n 1, 27), (27, .aload_n 3, 28)] : List (Nat × Instr × Nat)), il_206.lookup e.1 = some e.2 := by decide +kernel
theorem li_206_28 : il_206.lookup 28 = some (.invokevirtual 40, 31) := by decide +kernel
theorem li_206_31 : il_206.lookup 31 = some (.invokevirtual 44, 34) := by decide +kernel
theorem bo_206_34_43447d : ∀ e ∈ ([(34, .astore 4, 36), (36, .aload 4, 38), (38, .ifnull 13, 41)] : List (Nat × Instr × Nat)), il_206.lookup e.1 = some e.2 := by decide +kernel
theorem bo_206_34_464168 : ∀ e ∈ ([(34, .astore 4, 36), (36, .aload 4, 38), (38, .ifnull 13, 41), (41, .aload 4, 43)] : List (Nat × Instr × Nat)), il_206.lookup e.1 = some e.2 := by decide +kernel
theorem li_206_43 : il_206.lookup 43 = some (.invokevirtual 48, 46) := by decide +kernel
theorem li_206_46 : il_206.lookup 46 = some (.ifCond .ne 5, 49) := by decide +kernel
theorem bo_206_49_e052b7 : ∀ e ∈ ([(49, .iconst 1, 50)] : List (Nat × Instr × Nat)), il_206.lookup e.1 = some e.2 := by decide +kernel
theorem li_206_50 : il_206.lookup 50 = some (.ireturn, 51) := by decide +kernel
theorem bo_207_2_d916f9 : ∀ e ∈ ([(2, .iload_n 1, 3), (3, .iconst 3, 4)] : List (Nat × Instr × Nat)), il_207.lookup e.1 = some e.2 := by decide +kernel
theorem li_207_4 : il_207.lookup 4 = some (.if_icmp .ge 19, 7) := by decide +kernel
theorem bo_207_23_b37e12 : ∀ e ∈ ([(23, .iconst (-1), 24)] : List (Nat × Instr × Nat)), il_207.lookup e.1 = some e.2 := by decide +kernel
theorem li_207_24 : il_207.lookup 24 = some (.ireturn, 25) := by decide +kernel
theorem bo_207_7_e08900 : ∀ e ∈ ([(7, .iload_n 0, 8), (8, .iload_n 1, 9), (9, .ishr, 10), (10, .iconst 1, 11), (11, .iand, 12)] : List (Nat × Instr × Nat)), il_207.lookup e.1 = some e.2 := by decide +kernel
theorem li_207_12 : il_207.lookup 12 = some (.ifCond .ne 5, 15) := by decide +kernel
theorem bo_207_17_3601cd : ∀ e ∈ ([(17, .iinc 1 1, 20), (20, .goto (-18), 23)] : List (Nat × Instr × Nat)), il_207.lookup e.1 = some e.2 := by decide +kernel
theorem bo_207_15_be4250 : ∀ e ∈ ([(15, .iload_n 1, 16)] : List (Nat × Instr × Nat)), il_207.lookup e.1 = some e.2 := by decide +kernel
theorem li_207_16 : il_207.lookup 16 = some (.ireturn, 17) := by decide +kernel
theorem bo_207_0_264884 : ∀ e ∈ ([(0, .iconst 0, 1), (1, .istore_n 1, 2)] : List (Nat × Instr × Nat)), il_207.lookup e.1 = some e.2 := by decide +kernel
theorem bo_208_0_8d5162 : ∀ e ∈ ([(0, .aload_n 0, 1)] : List (Nat × Instr × Nat)), il_208.lookup e.1 = some e.2 := by decide +kernel
theorem li_208_1 : il_208.lookup 1 = some (.getfield 18, 4) := by decide +kernel
theorem bo_208_4_40e659 : ∀ e ∈ ([(4, .iload_n 1, 5), (5, .iload_n 2, 6)] : List (Nat × Instr × Nat)), il_208.lookup e.1 = some e.2 := by decide +kernel
theorem li_208_6 : il_208.lookup 6 = some (.invokevirtual 34, 9) := by decide +kernel
theorem bo_208_9_9e6927 : ∀ e ∈ ([(9, .astore 4, 11), (11, .aload 4, 13), (13, .ifnonnull 5, 16), (16, .iconst (-1), 17)] : List (Nat × Instr × Nat)), il_208.lookup e.1 = some e.2 := by decide +kernel
theorem li_208_17 : il_208.lookup 17 = some (.ireturn, 18) := by decide +kernel
theorem bo_208_9_dc76f3 : ∀ e ∈ ([(9, .astore 4, 11), (11, .aload 4, 13), (13, .ifnonnull 5, 16), (18, .iload_n 3, 19)] : List (Nat × Instr × Nat)), il_208.lookup e.1 = some e.2 := by decide +kernel
theorem li_208_19 : il_208.lookup 19 = some (.lookupswitch 46 #[(1, 25), (2, 36)], 44) := by decide +kernel
theorem bo_208_44_56c0aa : ∀ e ∈ ([(44, .aload_n 0, 45)] : List (Nat × Instr × Nat)), il_208.lookup e.1 = some e.2 := by decide +kernel
theorem li_208_45 : il_208.lookup 45 = some (.getfield 18, 48) := by decide +kernel
theorem bo_208_48_3a676f : ∀ e ∈ ([(48, .iload_n 1, 49), (49, .aload 4, 51)] : List (Nat × Instr × Nat)), il_208.lookup e.1 = some e.2 := by decide +kernel
theorem li_208_51 : il_208.lookup 51 = some (.invokevirtual 40, 54) := by decide +kernel
theorem li_208_54 : il_208.lookup 54 = some (.ireturn, 55) := by decide +kernel
theorem bo_208_55_bd1207 : ∀ e ∈ ([(55, .aload_n 0, 56)] : List (Nat × Instr × Nat)), il_208.lookup e.1 = some e.2 := by decide +kernel
theorem li_208_56 : il_208.lookup 56 = some (.getfield 18, 59) := by decide +kernel
theorem bo_208_59_d0b94e : ∀ e ∈ ([(59, .iload_n 1, 60), (60, .iload_n 2, 61)] : List (Nat × Instr × Nat)), il_208.lookup e.1 = some e.2 := by decide +kernel
theorem li_208_61 : il_208.lookup 61 = some (.invokevirtual 60, 64) := by decide +kernel
theorem li_208_64 : il_208.lookup 64 = some (.ireturn, 65) := by decide +kernel
theorem bo_208_65_a2326b : ∀ e ∈ ([(65, .aload 4, 67)] : List (Nat × Instr × Nat)), il_208.lookup e.1 = some e.2 := by decide +kernel
theorem li_208_67 : il_208.lookup 67 = some (.getfield 78, 70) := by decide +kernel
theorem li_208_70 : il_208.lookup 70 = some (.invokestatic 81, 73) := by decide +kernel
theorem li_208_73 : il_208.lookup 73 = some (.ireturn, 74) := by decide +kernel
theorem bo_209_103_98f00a : ∀ e ∈ ([(103, .aload_n 0, 104)] : List (Nat × Instr × Nat)), il_209.lookup e.1 = some e.2 := by decide +kernel
theorem li_209_104 : il_209.lookup 104 = some (.getfield 26, 107) := by decide +kernel
theorem li_209_107 : il_209.lookup 107 = some (.ireturn, 108) := by decide +kernel
theorem bo_209_96_545cdb : ∀ e ∈ ([(96, .istore_n 3, 97), (97, .iinc 5 1, 100), (100, .goto (-92), 103)] : List (Nat × Instr × Nat)), il_209.lookup e.1 = some e.2 := by decide +kernel
theorem bo_209_8_61d989 : ∀ e ∈ ([(8, .iload 5, 10), (10, .bipush 8, 12)] : List (Nat × Instr × Nat)), il_209.lookup e.1 = some e.2 := by decide +kernel
theorem li_209_12 : il_209.lookup 12 = some (.if_icmp .ge 91, 15) := by decide +kernel
theorem bo_209_15_f418fa : ∀ e ∈ ([(15, .aload_n 0, 16), (16, .iload_n 3, 17), (17, .iload 4, 19)] : List (Nat × Instr × Nat)), il_209.lookup e.1 = some e.2 := by decide +kernel
theorem li_209_19 : il_209.lookup 19 = some (.invokevirtual 22, 22) := by decide +kernel
theorem bo_209_22_58f8c5 : ∀ e ∈ ([(22, .istore 6, 24), (24, .aload_n 0, 25)] : List (Nat × Instr × Nat)), il_209.lookup e.1 = some e.2 := by decide +kernel
theorem li_209_25 : il_209.lookup 25 = some (.getfield 9, 28) := by decide +kernel
theorem bo_209_28_05679a : ∀ e ∈ ([(28, .iload 5, 30), (30, .bipush 10, 32), (32, .iload_n 3, 33), (33, .imul, 34), (34, .iload 4, 36), (36, .iadd, 37)] : List (Nat × Instr × Nat)), il_209.lookup e.1 = some e.2 := by decide +kernel
theorem li_209_37 : il_209.lookup 37 = some (.iastore, 38) := by decide +kernel
theorem bo_209_38_c8c763 : ∀ e ∈ ([(38, .aload_n 0, 39)] : List (Nat × Instr × Nat)), il_209.lookup e.1 = some e.2 := by decide +kernel
theorem li_209_39 : il_209.lookup 39 = some (.getfield 15, 42) := by decide +kernel
theorem bo_209_42_9a2b64 : ∀ e ∈ ([(42, .iload 5, 44), (44, .iload 6, 46)] : List (Nat × Instr × Nat)), il_209.lookup e.1 = some e.2 := by decide +kernel
theorem li_209_46 : il_209.lookup 46 = some (.iastore, 47) := by decide +kernel
theorem bo_209_47_194f04 : ∀ e ∈ ([(47, .aload_n 0, 48), (48, .iload 5, 50), (50, .iconst 1, 51), (51, .iadd, 52)] : List (Nat × Instr × Nat)), il_209.lookup e.1 = some e.2 := by decide +kernel
theorem li_209_52 : il_209.lookup 52 = some (.putfield 26, 55) := by decide +kernel
theorem bo_209_55_6a6cc2 : ∀ e ∈ ([(55, .iload 6, 57), (57, .iconst 4, 58)] : List (Nat × Instr × Nat)), il_209.lookup e.1 = some e.2 := by decide +kernel
theorem li_209_58 : il_209.lookup 58 = some (.if_icmp .eq 45, 61) := by decide +kernel
theorem bo_209_61_c66632 : ∀ e ∈ ([(61, .iload 6, 63), (63, .iconst 5, 64)] : List (Nat × Instr × Nat)), il_209.lookup e.1 = some e.2 := by decide +kernel
theorem li_209_64 : il_209.lookup 64 = some (.if_icmp .ne 6, 67) := by decide +kernel
theorem bo_209_70_36d513 : ∀ e ∈ ([(70, .aload_n 0, 71), (71, .iload_n 3, 72), (72, .iload 4, 74), (74, .iload 6, 76)] : List (Nat × Instr × Nat)), il_209.lookup e.1 = some e.2 := by decide +kernel
theorem li_209_76 : il_209.lookup 76 = some (.invokevirtual 30, 79) := by decide +kernel
theorem bo_209_79_78a407 : ∀ e ∈ ([(79, .istore 4, 81), (81, .iload 6, 83), (83, .iconst 3, 84)] : List (Nat × Instr × Nat)), il_209.lookup e.1 = some e.2 := by decide +kernel
theorem li_209_84 : il_209.lookup 84 = some (.if_icmp .ne 9, 87) := by decide +kernel
theorem bo_209_93_1d8163 : ∀ e ∈ ([(93, .iload_n 3, 94), (94, .iconst 1, 95), (95, .iadd, 96)] : List (Nat × Instr × Nat)), il_209.lookup e.1 = some e.2 := by decide +kernel
theorem bo_209_87_3a51a7 : ∀ e ∈ ([(87, .iload_n 3, 88), (88, .iconst 1, 89), (89, .isub, 90), (90, .goto 6, 93)] : List (Nat × Instr × Nat)), il_209.lookup e.1 = some e.2 := by decide +kernel
theorem bo_209_67_ded3a4 : ∀ e ∈ ([(67, .goto 36, 70)] : List (Nat × Instr × Nat)), il_209.lookup e.1 = some e.2 := by decide +kernel
theorem bo_209_0_28c51c : ∀ e ∈ ([(0, .iload_n 1, 1), (1, .istore_n 3, 2), (2, .iload_n 2, 3), (3, .istore 4, 5), (5, .iconst 0, 6), (6, .istore 5, 8)] : List (Nat × Instr × Nat)), il_209.lookup e.1 = some e.2 := by decide +kernel
theorem bo_210_0_8d5162 : ∀ e ∈ ([(0, .aload_n 0, 1)] : List (Nat × Instr × Nat)), il_210.lookup e.1 = some e.2 := by decide +kernel
theorem li_210_1 : il_210.lookup 1 = some (.getfield 31, 4) := by decide +kernel
theorem bo_210_4_40e659 : ∀ e ∈ ([(4, .iload_n 1, 5), (5, .iload_n 2, 6)] : List (Nat × Instr × Nat)), il_210.lookup e.1 = some e.2 := by decide +kernel
theorem li_210_6 : il_210.lookup 6 = some (.invokevirtual 184, 9) := by decide +kernel
theorem bo_210_9_675523 : ∀ e ∈ ([(9, .ifnonnull 6, 12), (12, .ldc 137, 14)] : List (Nat × Instr × Nat)), il_210.lookup e.1 = some e.2 := by decide +kernel
theorem li_210_14 : il_210.lookup 14 = some (.ireturn, 15) := by decide +kernel
theorem bo_210_9_f6660b : ∀ e ∈ ([(9, .ifnonnull 6, 12), (15, .aload_n 0, 16)] : List (Nat × Instr × Nat)), il_210.lookup e.1 = some e.2 := by decide +kernel
theorem li_210_16 : il_210.lookup 16 = some (.getfield 47, 19) := by decide +kernel
theorem bo_210_19_643a70 : ∀ e ∈ ([(19, .iload_n 1, 20), (20, .iload_n 2, 21)] : List (Nat × Instr × Nat)), il_210.lookup e.1 = some e.2 := by decide +kernel
theorem li_210_21 : il_210.lookup 21 = some (.invokevirtual 262, 24) := by decide +kernel
theorem li_210_24 : il_210.lookup 24 = some (.ireturn, 25) := by decide +kernel
theorem bo_211_139_a6de6c : ∀ e ∈ ([(139, .aload_n 0, 140)] : List (Nat × Instr × Nat)), il_211.lookup e.1 = some e.2 := by decide +kernel
theorem li_211_140 : il_211.lookup 140 = some (.getfield 105, 143) := by decide +kernel
theorem bo_211_143_2be1db : ∀ e ∈ ([(143, .iload_n 3, 144)] : List (Nat × Instr × Nat)), il_211.lookup e.1 = some e.2 := by decide +kernel
theorem li_211_144 : il_211.lookup 144 = some (.iaload, 145) := by decide +kernel
theorem bo_211_145_61494d : ∀ e ∈ ([(145, .aload_n 0, 146)] : List (Nat × Instr × Nat)), il_211.lookup e.1 = some e.2 := by decide +kernel
theorem li_211_146 : il_211.lookup 146 = some (.getfield 393, 149) := by decide +kernel
theorem bo_211_149_3bec5e : ∀ e ∈ ([(149, .ishr, 150), (150, .iconst 1, 151), (151, .iand, 152), (152, .iconst 1, 153)] : List (Nat × Instr × Nat)), il_211.lookup e.1 = some e.2 := by decide +kernel
theorem li_211_153 : il_211.lookup 153 = some (.if_icmp .ne 16, 156) := by decide +kernel
theorem bo_211_169_66a7ab : ∀ e ∈ ([(169, .iconst 3, 170)] : List (Nat × Instr × Nat)), il_211.lookup e.1 = some e.2 := by decide +kernel
theorem li_211_170 : il_211.lookup 170 = some (.ireturn, 171) := by decide +kernel
theorem bo_211_156_510bac : ∀ e ∈ ([(156, .aload_n 0, 157), (157, .dup, 158)] : List (Nat × Instr × Nat)), il_211.lookup e.1 = some e.2 := by decide +kernel
theorem li_211_158 : il_211.lookup 158 = some (.getfield 393, 161) := by decide +kernel
theorem bo_211_161_f80529 : ∀ e ∈ ([(161, .iconst 1, 162), (162, .iadd, 163)] : List (Nat × Instr × Nat)), il_211.lookup e.1 = some e.2 := by decide +kernel
theorem li_211_163 : il_211.lookup 163 = some (.putfield 393, 166) := by decide +kernel
theorem bo_211_166_78cd3a : ∀ e ∈ ([(166, .goto (-27), 169)] : List (Nat × Instr × Nat)), il_211.lookup e.1 = some e.2 := by decide +kernel
theorem bo_211_91_23d558 : ∀ e ∈ ([(91, .iload_n 1, 92)] : List (Nat × Instr × Nat)), il_211.lookup e.1 = some e.2 := by decide +kernel
theorem li_211_92 : il_211.lookup 92 = some (.ifCond .ne 20, 95) := by decide +kernel
theorem bo_211_112_2aac2f : ∀ e ∈ ([(112, .aload_n 0, 113), (113, .iload_n 1, 114), (114, .iload_n 2, 115)] : List (Nat × Instr × Nat)), il_211.lookup e.1 = some e.2 := by decide +kernel
theorem li_211_115 : il_211.lookup 115 = some (.invokevirtual 328, 118) := by decide +kernel
theorem li_211_118 : il_211.lookup 118 = some (.ifCond .lt 5, 121) := by decide +kernel
theorem bo_211_123_4951b9 : ∀ e ∈ ([(123, .aload_n 0, 124)] : List (Nat × Instr × Nat)), il_211.lookup e.1 = some e.2 := by decide +kernel
theorem li_211_124 : il_211.lookup 124 = some (.getfield 105, 127) := by decide +kernel
theorem bo_211_127_244a0d : ∀ e ∈ ([(127, .iload_n 3, 128)] : List (Nat × Instr × Nat)), il_211.lookup e.1 = some e.2 := by decide +kernel
theorem li_211_128 : il_211.lookup 128 = some (.iaload, 129) := by decide +kernel
theorem li_211_129 : il_211.lookup 129 = some (.ifCond .ne 5, 132) := by decide +kernel
theorem bo_211_134_216a7f : ∀ e ∈ ([(134, .aload_n 0, 135), (135, .iconst 0, 136)] : List (Nat × Instr × Nat)), il_211.lookup e.1 = some e.2 := by decide +kernel
theorem li_211_136 : il_211.lookup 136 = some (.putfield 393, 139) := by decide +kernel
theorem bo_211_132_076fea : ∀ e ∈ ([(132, .iconst 4, 133)] : List (Nat × Instr × Nat)), il_211.lookup e.1 = some e.2 := by decide +kernel
theorem li_211_133 : il_211.lookup 133 = some (.ireturn, 134) := by decide +kernel
theorem bo_211_121_641af5 : ∀ e ∈ ([(121, .iconst 5, 122)] : List (Nat × Instr × Nat)), il_211.lookup e.1 = some e.2 := by decide +kernel
theorem li_211_122 : il_211.lookup 122 = some (.ireturn, 123) := by decide +kernel
theorem bo_211_95_076086 : ∀ e ∈ ([(95, .aload_n 0, 96)] : List (Nat × Instr × Nat)), il_211.lookup e.1 = some e.2 := by decide +kernel
theorem li_211_96 : il_211.lookup 96 = some (.getfield 271, 99) := by decide +kernel
theorem bo_211_99_e6cd5c : ∀ e ∈ ([(99, .aload_n 0, 100)] : List (Nat × Instr × Nat)), il_211.lookup e.1 = some e.2 := by decide +kernel
theorem li_211_100 : il_211.lookup 100 = some (.getfield 275, 103) := by decide +kernel
theorem li_211_103 : il_211.lookup 103 = some (.if_icmp .ne 7, 106) := by decide +kernel
theorem bo_211_110_d0a2fc : ∀ e ∈ ([(110, .iconst 5, 111)] : List (Nat × Instr × Nat)), il_211.lookup e.1 = some e.2 := by decide +kernel
theorem li_211_111 : il_211.lookup 111 = some (.ireturn, 112) := by decide +kernel
theorem bo_211_106_9c4b38 : ∀ e ∈ ([(106, .iconst 4, 107), (107, .goto 4, 110)] : List (Nat × Instr × Nat)), il_211.lookup e.1 = some e.2 := by decide +kernel
theorem bo_211_61_769b30 : ∀ e ∈ ([(61, .aload_n 0, 62)] : List (Nat × Instr × Nat)), il_211.lookup e.1 = some e.2 := by decide +kernel
theorem li_211_62 : il_211.lookup 62 = some (.getfield 111, 65) := by decide +kernel
theorem bo_211_65_a2326b : ∀ e ∈ ([(65, .iload_n 3, 66)] : List (Nat × Instr × Nat)), il_211.lookup e.1 = some e.2 := by decide +kernel
theorem li_211_66 : il_211.lookup 66 = some (.baload, 67) := by decide +kernel
theorem li_211_67 : il_211.lookup 67 = some (.ifCond .eq 24, 70) := by decide +kernel
theorem bo_211_70_c5dfb8 : ∀ e ∈ ([(70, .aload_n 0, 71), (71, .iload_n 1, 72), (72, .iload_n 2, 73)] : List (Nat × Instr × Nat)), il_211.lookup e.1 = some e.2 := by decide +kernel
theorem li_211_73 : il_211.lookup 73 = some (.invokevirtual 354, 76) := by decide +kernel
theorem li_211_76 : il_211.lookup 76 = some (.ifCond .lt 15, 79) := by decide +kernel
theorem bo_211_79_497297 : ∀ e ∈ ([(79, .aload_n 0, 80), (80, .aload_n 0, 81), (81, .iload_n 1, 82), (82, .iload_n 2, 83)] : List (Nat × Instr × Nat)), il_211.lookup e.1 = some e.2 := by decide +kernel
theorem li_211_83 : il_211.lookup 83 = some (.invokevirtual 354, 86) := by decide +kernel
theorem li_211_86 : il_211.lookup 86 = some (.putfield 393, 89) := by decide +kernel
theorem bo_211_89_bbca9b : ∀ e ∈ ([(89, .iconst 2, 90)] : List (Nat × Instr × Nat)), il_211.lookup e.1 = some e.2 := by decide +kernel
theorem li_211_90 : il_211.lookup 90 = some (.ireturn, 91) := by decide +kernel
theorem bo_211_0_264884 : ∀ e ∈ ([(0, .iload_n 1, 1), (1, .iload_n 2, 2)] : List (Nat × Instr × Nat)), il_211.lookup e.1 = some e.2 := by decide +kernel
theorem li_211_2 : il_211.lookup 2 = some (.invokestatic 288, 5) := by decide +kernel
theorem bo_211_5_ca77c4 : ∀ e ∈ ([(5, .istore_n 3, 6), (6, .aload_n 0, 7)] : List (Nat × Instr × Nat)), il_211.lookup e.1 = some e.2 := by decide +kernel
theorem li_211_7 : il_211.lookup 7 = some (.getfield 93, 10) := by decide +kernel
theorem bo_211_10_2a30f5 : ∀ e ∈ ([(10, .iload_n 3, 11)] : List (Nat × Instr × Nat)), il_211.lookup e.1 = some e.2 := by decide +kernel
theorem li_211_11 : il_211.lookup 11 = some (.iaload, 12) := by decide +kernel
theorem li_211_12 : il_211.lookup 12 = some (.ifCond .le 49, 15) := by decide +kernel
theorem bo_211_15_27c4e3 : ∀ e ∈ ([(15, .aload_n 0, 16), (16, .iload_n 1, 17), (17, .iload_n 2, 18), (18, .aload_n 0, 19), (19, .iload_n 1, 20), (20, .iload_n 2, 21), (21, .aload_n 0, 22)] : List (Nat × Instr × Nat)), il_211.lookup e.1 = some e.2 := by decide +kernel
theorem li_211_22 : il_211.lookup 22 = some (.getfield 96, 25) := by decide +kernel
theorem bo_211_25_43ea85 : ∀ e ∈ ([(25, .iconst 3, 26), (26, .iload_n 3, 27), (27, .imul, 28)] : List (Nat × Instr × Nat)), il_211.lookup e.1 = some e.2 := by decide +kernel
theorem li_211_28 : il_211.lookup 28 = some (.iaload, 29) := by decide +kernel
theorem li_211_29 : il_211.lookup 29 = some (.invokevirtual 344, 32) := by decide +kernel
theorem li_211_32 : il_211.lookup 32 = some (.invokestatic 324, 35) := by decide +kernel
theorem li_211_35 : il_211.lookup 35 = some (.invokevirtual 347, 38) := by decide +kernel
theorem li_211_38 : il_211.lookup 38 = some (.ifCond .ne 23, 41) := by decide +kernel
theorem bo_211_41_f9fef1 : ∀ e ∈ ([(41, .aload_n 0, 42), (42, .aload_n 0, 43), (43, .iload_n 1, 44), (44, .iload_n 2, 45), (45, .aload_n 0, 46)] : List (Nat × Instr × Nat)), il_211.lookup e.1 = some e.2 := by decide +kernel
theorem li_211_46 : il_211.lookup 46 = some (.getfield 96, 49) := by decide +kernel
theorem bo_211_49_5ed7df : ∀ e ∈ ([(49, .iconst 3, 50), (50, .iload_n 3, 51), (51, .imul, 52)] : List (Nat × Instr × Nat)), il_211.lookup e.1 = some e.2 := by decide +kernel
theorem li_211_52 : il_211.lookup 52 = some (.iaload, 53) := by decide +kernel
theorem li_211_53 : il_211.lookup 53 = some (.invokevirtual 344, 56) := by decide +kernel
theorem li_211_56 : il_211.lookup 56 = some (.putfield 393, 59) := by decide +kernel
theorem bo_211_59_8c3b95 : ∀ e ∈ ([(59, .iconst 1, 60)] : List (Nat × Instr × Nat)), il_211.lookup e.1 = some e.2 := by decide +kernel
theorem li_211_60 : il_211.lookup 60 = some (.ireturn, 61) := by decide +kernel
theorem bo_212_126_5c1ba5 : ∀ e ∈ ([(126, .iadd, 127), (127, .istore_n 3, 128), (128, .aload_n 0, 129)] : List (Nat × Instr × Nat)), il_212.lookup e.1 = some e.2 := by decide +kernel
theorem li_212_129 : il_212.lookup 129 = some (.getfield 393, 132) := by decide +kernel
theorem bo_212_132_8d813f : ∀ e ∈ ([(132, .istore 4, 134), (134, .goto (-93), 137)] : List (Nat × Instr × Nat)), il_212.lookup e.1 = some e.2 := by decide +kernel
theorem bo_212_112_5d5ee9 : ∀ e ∈ ([(112, .istore 5, 114), (114, .iload_n 3, 115), (115, .iload 6, 117), (117, .iconst 3, 118)] : List (Nat × Instr × Nat)), il_212.lookup e.1 = some e.2 := by decide +kernel
theorem li_212_118 : il_212.lookup 118 = some (.if_icmp .ge 7, 121) := by decide +kernel
theorem bo_212_125_bc72fa : ∀ e ∈ ([(125, .iconst (-1), 126)] : List (Nat × Instr × Nat)), il_212.lookup e.1 = some e.2 := by decide +kernel
theorem bo_212_121_74ff17 : ∀ e ∈ ([(121, .iconst 1, 122), (122, .goto 4, 125)] : List (Nat × Instr × Nat)), il_212.lookup e.1 = some e.2 := by decide +kernel
theorem bo_212_111_87438c : ∀ e ∈ ([(111, .iconst 0, 112)] : List (Nat × Instr × Nat)), il_212.lookup e.1 = some e.2 := by decide +kernel
theorem bo_212_41_45abaf : ∀ e ∈ ([(41, .iload 5, 43)] : List (Nat × Instr × Nat)), il_212.lookup e.1 = some e.2 := by decide +kernel
theorem li_212_43 : il_212.lookup 43 = some (.ifCond .eq 94, 46) := by decide +kernel
theorem bo_212_137_1c181f : ∀ e ∈ ([(137, .aload_n 0, 138)] : List (Nat × Instr × Nat)), il_212.lookup e.1 = some e.2 := by decide +kernel
theorem li_212_138 : il_212.lookup 138 = some (.getfield 396, 141) := by decide +kernel
theorem li_212_141 : il_212.lookup 141 = some (.ireturn, 142) := by decide +kernel
theorem bo_212_46_2efbd7 : ∀ e ∈ ([(46, .aload_n 0, 47), (47, .iload_n 3, 48), (48, .iload 4, 50)] : List (Nat × Instr × Nat)), il_212.lookup e.1 = some e.2 := by decide +kernel
theorem li_212_50 : il_212.lookup 50 = some (.invokevirtual 399, 53) := by decide +kernel
theorem bo_212_53_819f73 : ∀ e ∈ ([(53, .istore 6, 55), (55, .aload_n 0, 56)] : List (Nat × Instr × Nat)), il_212.lookup e.1 = some e.2 := by decide +kernel
theorem li_212_56 : il_212.lookup 56 = some (.getfield 187, 59) := by decide +kernel
theorem bo_212_59_8c3b95 : ∀ e ∈ ([(59, .aload_n 0, 60)] : List (Nat × Instr × Nat)), il_212.lookup e.1 = some e.2 := by decide +kernel
theorem li_212_60 : il_212.lookup 60 = some (.getfield 396, 63) := by decide +kernel
theorem bo_212_63_4a9c08 : ∀ e ∈ ([(63, .bipush 10, 65), (65, .iload_n 3, 66), (66, .imul, 67), (67, .iload 4, 69), (69, .iadd, 70)] : List (Nat × Instr × Nat)), il_212.lookup e.1 = some e.2 := by decide +kernel
theorem li_212_70 : il_212.lookup 70 = some (.iastore, 71) := by decide +kernel
theorem bo_212_71_2ba9bf : ∀ e ∈ ([(71, .aload_n 0, 72)] : List (Nat × Instr × Nat)), il_212.lookup e.1 = some e.2 := by decide +kernel
theorem li_212_72 : il_212.lookup 72 = some (.getfield 190, 75) := by decide +kernel
theorem bo_212_75_1f1f88 : ∀ e ∈ ([(75, .aload_n 0, 76)] : List (Nat × Instr × Nat)), il_212.lookup e.1 = some e.2 := by decide +kernel
theorem li_212_76 : il_212.lookup 76 = some (.getfield 396, 79) := by decide +kernel
theorem bo_212_79_febf86 : ∀ e ∈ ([(79, .iload 6, 81)] : List (Nat × Instr × Nat)), il_212.lookup e.1 = some e.2 := by decide +kernel
theorem li_212_81 : il_212.lookup 81 = some (.iastore, 82) := by decide +kernel
theorem bo_212_82_695807 : ∀ e ∈ ([(82, .aload_n 0, 83), (83, .dup, 84)] : List (Nat × Instr × Nat)), il_212.lookup e.1 = some e.2 := by decide +kernel
theorem li_212_84 : il_212.lookup 84 = some (.getfield 396, 87) := by decide +kernel
theorem bo_212_87_f249ad : ∀ e ∈ ([(87, .iconst 1, 88), (88, .iadd, 89)] : List (Nat × Instr × Nat)), il_212.lookup e.1 = some e.2 := by decide +kernel
theorem li_212_89 : il_212.lookup 89 = some (.putfield 396, 92) := by decide +kernel
theorem bo_212_92_7a2ea4 : ∀ e ∈ ([(92, .iload 6, 94), (94, .iconst 4, 95)] : List (Nat × Instr × Nat)), il_212.lookup e.1 = some e.2 := by decide +kernel
theorem li_212_95 : il_212.lookup 95 = some (.if_icmp .ge 16, 98) := by decide +kernel
theorem bo_212_98_9ec1f3 : ∀ e ∈ ([(98, .aload_n 0, 99)] : List (Nat × Instr × Nat)), il_212.lookup e.1 = some e.2 := by decide +kernel
theorem li_212_99 : il_212.lookup 99 = some (.getfield 396, 102) := by decide +kernel
theorem bo_212_102_097908 : ∀ e ∈ ([(102, .bipush 8, 104)] : List (Nat × Instr × Nat)), il_212.lookup e.1 = some e.2 := by decide +kernel
theorem li_212_104 : il_212.lookup 104 = some (.if_icmp .ge 7, 107) := by decide +kernel
theorem bo_212_107_68dab3 : ∀ e ∈ ([(107, .iconst 1, 108), (108, .goto 4, 111)] : List (Nat × Instr × Nat)), il_212.lookup e.1 = some e.2 := by decide +kernel
theorem bo_212_0_264884 : ∀ e ∈ ([(0, .aload_n 0, 1), (1, .iload_n 1, 2)] : List (Nat × Instr × Nat)), il_212.lookup e.1 = some e.2 := by decide +kernel
theorem li_212_2 : il_212.lookup 2 = some (.invokevirtual 377, 5) := by decide +kernel
theorem li_212_5 : il_212.lookup 5 = some (.ifCond .eq 19, 8) := by decide +kernel
theorem bo_212_24_99aa1d : ∀ e ∈ ([(24, .ldc_w 309, 27)] : List (Nat × Instr × Nat)), il_212.lookup e.1 = some e.2 := by decide +kernel
theorem li_212_27 : il_212.lookup 27 = some (.ireturn, 28) := by decide +kernel
theorem bo_212_8_325fca : ∀ e ∈ ([(8, .iload_n 2, 9), (9, .iconst 0, 10), (10, .aload_n 0, 11)] : List (Nat × Instr × Nat)), il_212.lookup e.1 = some e.2 := by decide +kernel
theorem li_212_11 : il_212.lookup 11 = some (.getfield 22, 14) := by decide +kernel
theorem bo_212_14_3e81ce : ∀ e ∈ ([(14, .iload_n 1, 15)] : List (Nat × Instr × Nat)), il_212.lookup e.1 = some e.2 := by decide +kernel
theorem li_212_15 : il_212.lookup 15 = some (.iaload, 16) := by decide +kernel
theorem bo_212_16_f4f9fa : ∀ e ∈ ([(16, .iconst 1, 17), (17, .isub, 18)] : List (Nat × Instr × Nat)), il_212.lookup e.1 = some e.2 := by decide +kernel
theorem li_212_18 : il_212.lookup 18 = some (.invokestatic 203, 21) := by decide +kernel
theorem li_212_21 : il_212.lookup 21 = some (.ifCond .ne 7, 24) := by decide +kernel
theorem bo_212_28_533662 : ∀ e ∈ ([(28, .aload_n 0, 29), (29, .iconst 0, 30)] : List (Nat × Instr × Nat)), il_212.lookup e.1 = some e.2 := by decide +kernel
theorem li_212_30 : il_212.lookup 30 = some (.putfield 396, 33) := by decide +kernel
theorem bo_212_33_7d5dd6 : ∀ e ∈ ([(33, .iload_n 1, 34), (34, .istore_n 3, 35), (35, .iload_n 2, 36), (36, .istore 4, 38), (38, .iconst 1, 39), (39, .istore 5, 41)] : List (Nat × Instr × Nat)), il_212.lookup e.1 = some e.2 := by decide +kernel
theorem bo_213_0_8d5162 : ∀ e ∈ ([(0, .iload_n 1, 1)] : List (Nat × Instr × Nat)), il_213.lookup e.1 = some e.2 := by decide +kernel
theorem li_213_1 : il_213.lookup 1 = some (.ifCond .lt 20, 4) := by decide +kernel
theorem bo_213_21_46c79c : ∀ e ∈ ([(21, .ldc 137, 23)] : List (Nat × Instr × Nat)), il_213.lookup e.1 = some e.2 := by decide +kernel
theorem li_213_23 : il_213.lookup 23 = some (.ireturn, 24) := by decide +kernel
theorem bo_213_4_40e659 : ∀ e ∈ ([(4, .iload_n 1, 5), (5, .aload_n 0, 6)] : List (Nat × Instr × Nat)), il_213.lookup e.1 = some e.2 := by decide +kernel
theorem li_213_6 : il_213.lookup 6 = some (.getfield 47, 9) := by decide +kernel
theorem li_213_9 : il_213.lookup 9 = some (.getfield 265, 12) := by decide +kernel
theorem li_213_12 : il_213.lookup 12 = some (.if_icmp .ge 9, 15) := by decide +kernel
theorem bo_213_15_d45c32 : ∀ e ∈ ([(15, .iload_n 1, 16), (16, .bipush 8, 18)] : List (Nat × Instr × Nat)), il_213.lookup e.1 = some e.2 := by decide +kernel
theorem li_213_18 : il_213.lookup 18 = some (.if_icmp .lt 6, 21) := by decide +kernel
theorem bo_213_24_99aa1d : ∀ e ∈ ([(24, .iload_n 2, 25)] : List (Nat × Instr × Nat)), il_213.lookup e.1 = some e.2 := by decide +kernel
theorem li_213_25 : il_213.lookup 25 = some (.lookupswitch 47 #[(0, 27), (1, 37)], 52) := by decide +kernel
theorem bo_213_52_118d3f : ∀ e ∈ ([(52, .aload_n 0, 53)] : List (Nat × Instr × Nat)), il_213.lookup e.1 = some e.2 := by decide +kernel
theorem li_213_53 : il_213.lookup 53 = some (.getfield 47, 56) := by decide +kernel
theorem li_213_56 : il_213.lookup 56 = some (.getfield 268, 59) := by decide +kernel
theorem bo_213_59_8c3b95 : ∀ e ∈ ([(59, .iload_n 1, 60)] : List (Nat × Instr × Nat)), il_213.lookup e.1 = some e.2 := by decide +kernel
theorem li_213_60 : il_213.lookup 60 = some (.iaload, 61) := by decide +kernel
theorem li_213_61 : il_213.lookup 61 = some (.ireturn, 62) := by decide +kernel
theorem bo_213_62_13a257 : ∀ e ∈ ([(62, .aload_n 0, 63)] : List (Nat × Instr × Nat)), il_213.lookup e.1 = some e.2 := by decide +kernel
theorem li_213_63 : il_213.lookup 63 = some (.getfield 47, 66) := by decide +kernel
theorem li_213_66 : il_213.lookup 66 = some (.getfield 272, 69) := by decide +kernel
theorem bo_213_69_d2296b : ∀ e ∈ ([(69, .iload_n 1, 70)] : List (Nat × Instr × Nat)), il_213.lookup e.1 = some e.2 := by decide +kernel
theorem li_213_70 : il_213.lookup 70 = some (.iaload, 71) := by decide +kernel
theorem li_213_71 : il_213.lookup 71 = some (.ireturn, 72) := by decide +kernel
theorem bo_213_72_c0ffc8 : ∀ e ∈ ([(72, .ldc 51, 74)] : List (Nat × Instr × Nat)), il_213.lookup e.1 = some e.2 := by decide +kernel
theorem li_213_74 : il_213.lookup 74 = some (.ireturn, 75) := by decide +kernel
theorem bo_214_0_8b3750 : ∀ e ∈ ([(0, .iload_n 1, 1), (1, .iconst 0, 2), (2, .aload_n 0, 3)] : List (Nat × Instr × Nat)), il_214.lookup e.1 = some e.2 := by decide +kernel
theorem li_214_3 : il_214.lookup 3 = some (.getfield 396, 6) := by decide +kernel
theorem bo_214_6_e618ed : ∀ e ∈ ([(6, .iconst 1, 7), (7, .isub, 8)] : List (Nat × Instr × Nat)), il_214.lookup e.1 = some e.2 := by decide +kernel
theorem li_214_8 : il_214.lookup 8 = some (.invokestatic 203, 11) := by decide +kernel
theorem li_214_11 : il_214.lookup 11 = some (.ifCond .ne 7, 14) := by decide +kernel
theorem bo_214_18_16f310 : ∀ e ∈ ([(18, .iload_n 2, 19), (19, .iconst 0, 20), (20, .iconst 1, 21)] : List (Nat × Instr × Nat)), il_214.lookup e.1 = some e.2 := by decide +kernel
theorem li_214_21 : il_214.lookup 21 = some (.invokestatic 203, 24) := by decide +kernel
theorem li_214_24 : il_214.lookup 24 = some (.ifCond .ne 8, 27) := by decide +kernel
theorem bo_214_32_191034 : ∀ e ∈ ([(32, .iload_n 2, 33)] : List (Nat × Instr × Nat)), il_214.lookup e.1 = some e.2 := by decide +kernel
theorem li_214_33 : il_214.lookup 33 = some (.ifCond .ne 12, 36) := by decide +kernel
theorem bo_214_45_8e29f2 : ∀ e ∈ ([(45, .aload_n 0, 46)] : List (Nat × Instr × Nat)), il_214.lookup e.1 = some e.2 := by decide +kernel
theorem li_214_46 : il_214.lookup 46 = some (.getfield 190, 49) := by decide +kernel
theorem bo_214_49_e052b7 : ∀ e ∈ ([(49, .iload_n 1, 50)] : List (Nat × Instr × Nat)), il_214.lookup e.1 = some e.2 := by decide +kernel
theorem li_214_50 : il_214.lookup 50 = some (.iaload, 51) := by decide +kernel
theorem li_214_51 : il_214.lookup 51 = some (.ireturn, 52) := by decide +kernel
theorem bo_214_36_befed3 : ∀ e ∈ ([(36, .aload_n 0, 37)] : List (Nat × Instr × Nat)), il_214.lookup e.1 = some e.2 := by decide +kernel
theorem li_214_37 : il_214.lookup 37 = some (.getfield 187, 40) := by decide +kernel
theorem bo_214_40_d0cc5b : ∀ e ∈ ([(40, .iload_n 1, 41)] : List (Nat × Instr × Nat)), il_214.lookup e.1 = some e.2 := by decide +kernel
theorem li_214_41 : il_214.lookup 41 = some (.iaload, 42) := by decide +kernel
theorem bo_214_42_b358e7 : ∀ e ∈ ([(42, .goto 9, 45)] : List (Nat × Instr × Nat)), il_214.lookup e.1 = some e.2 := by decide +kernel
theorem bo_214_27_62aa2e : ∀ e ∈ ([(27, .ldc 207, 29), (29, .goto 22, 32)] : List (Nat × Instr × Nat)), il_214.lookup e.1 = some e.2 := by decide +kernel
theorem bo_214_14_3e81ce : ∀ e ∈ ([(14, .ldc_w 309, 17)] : List (Nat × Instr × Nat)), il_214.lookup e.1 = some e.2 := by decide +kernel
theorem li_214_17 : il_214.lookup 17 = some (.ireturn, 18) := by decide +kernel
theorem bo_215_0_8b3750 : ∀ e ∈ ([(0, .iload_n 1, 1), (1, .aload_n 0, 2), (2, .arraylength, 3)] : List (Nat × Instr × Nat)), il_215.lookup e.1 = some e.2 := by decide +kernel
theorem li_215_3 : il_215.lookup 3 = some (.invokestatic 9, 6) := by decide +kernel
theorem bo_215_6_e618ed : ∀ e ∈ ([(6, .aload_n 0, 7), (7, .iload_n 1, 8)] : List (Nat × Instr × Nat)), il_215.lookup e.1 = some e.2 := by decide +kernel
theorem li_215_8 : il_215.lookup 8 = some (.baload, 9) := by decide +kernel
theorem bo_215_9_c7177d : ∀ e ∈ ([(9, .sipush 255, 12), (12, .iand, 13), (13, .i2c, 14)] : List (Nat × Instr × Nat)), il_215.lookup e.1 = some e.2 := by decide +kernel
theorem li_215_14 : il_215.lookup 14 = some (.ireturn, 15) := by decide +kernel
theorem bo_216_0_8d5162 : ∀ e ∈ ([(0, .aload_n 0, 1)] : List (Nat × Instr × Nat)), il_216.lookup e.1 = some e.2 := by decide +kernel
theorem li_216_1 : il_216.lookup 1 = some (.invokevirtual 492, 4) := by decide +kernel
theorem li_216_4 : il_216.lookup 4 = some (.ifCond .eq 12, 7) := by decide +kernel
theorem bo_216_7_6cc7bb : ∀ e ∈ ([(7, .aload_n 0, 8), (8, .getfield 9, 11), (11, .iload_n 1, 12)] : List (Nat × Instr × Nat)), il_216.lookup e.1 = some e.2 := by decide +kernel
theorem li_216_12 : il_216.lookup 12 = some (.invokestatic 495, 15) := by decide +kernel
theorem li_216_15 : il_216.lookup 15 = some (.ireturn, 16) := by decide +kernel
theorem bo_217_16_f4f9fa : ∀ e ∈ ([(16, .iload_n 3, 17), (17, .bipush 10, 19)] : List (Nat × Instr × Nat)), il_217.lookup e.1 = some e.2 := by decide +kernel
theorem li_217_19 : il_217.lookup 19 = some (.if_icmp .ge 23, 22) := by decide +kernel
theorem bo_217_42_e416d5 : ∀ e ∈ ([(42, .bipush 10, 44), (44, .iload_n 1, 45), (45, .iadd, 46)] : List (Nat × Instr × Nat)), il_217.lookup e.1 = some e.2 := by decide +kernel
theorem li_217_46 : il_217.lookup 46 = some (.ireturn, 47) := by decide +kernel
theorem bo_217_22_13b32e : ∀ e ∈ ([(22, .iload_n 0, 23), (23, .iload_n 2, 24)] : List (Nat × Instr × Nat)), il_217.lookup e.1 = some e.2 := by decide +kernel
theorem li_217_24 : il_217.lookup 24 = some (.if_icmp .le 7, 27) := by decide +kernel
theorem bo_217_31_1ac72f : ∀ e ∈ ([(31, .bipush 10, 33), (33, .iload_n 2, 34), (34, .imul, 35), (35, .istore_n 2, 36), (36, .iinc 3 1, 39), (39, .goto (-23), 42)] : List (Nat × Instr × Nat)), il_217.lookup e.1 = some e.2 := by decide +kernel
theorem bo_217_27_655868 : ∀ e ∈ ([(27, .iload_n 3, 28), (28, .iload_n 1, 29), (29, .iadd, 30)] : List (Nat × Instr × Nat)), il_217.lookup e.1 = some e.2 := by decide +kernel
theorem li_217_30 : il_217.lookup 30 = some (.ireturn, 31) := by decide +kernel
theorem bo_217_11_ad6c31 : ∀ e ∈ ([(11, .bipush (-10), 13), (13, .istore_n 2, 14), (14, .iconst 1, 15), (15, .istore_n 3, 16)] : List (Nat × Instr × Nat)), il_217.lookup e.1 = some e.2 := by decide +kernel
theorem bo_217_0_8b3750 : ∀ e ∈ ([(0, .iconst 1, 1), (1, .istore_n 1, 2), (2, .iload_n 0, 3)] : List (Nat × Instr × Nat)), il_217.lookup e.1 = some e.2 := by decide +kernel
theorem li_217_3 : il_217.lookup 3 = some (.ifCond .lt 8, 6) := by decide +kernel
theorem bo_217_6_1d8488 : ∀ e ∈ ([(6, .iconst 0, 7), (7, .istore_n 1, 8), (8, .iload_n 0, 9), (9, .ineg, 10), (10, .istore_n 0, 11)] : List (Nat × Instr × Nat)), il_217.lookup e.1 = some e.2 := by decide +kernel
theorem bo_218_104_a38d21 : ∀ e ∈ ([(104, .iload 6, 106)] : List (Nat × Instr × Nat)), il_218.lookup e.1 = some e.2 := by decide +kernel
theorem li_218_106 : il_218.lookup 106 = some (.ifCond .eq 12, 109) := by decide +kernel
theorem bo_218_118_c412ec : ∀ e ∈ ([(118, .iload 5, 120)] : List (Nat × Instr × Nat)), il_218.lookup e.1 = some e.2 := by decide +kernel
theorem li_218_120 : il_218.lookup 120 = some (.ireturn, 121) := by decide +kernel
theorem bo_218_109_2db59a : ∀ e ∈ ([(109, .aload_n 2, 110), (110, .iinc 5 (-1), 113), (113, .iload 5, 115), (115, .bipush 45, 117)] : List (Nat × Instr × Nat)), il_218.lookup e.1 = some e.2 := by decide +kernel
theorem li_218_117 : il_218.lookup 117 = some (.bastore, 118) := by decide +kernel
theorem bo_218_22_13b32e : ∀ e ∈ ([(22, .iload_n 0, 23), (23, .bipush (-100), 25)] : List (Nat × Instr × Nat)), il_218.lookup e.1 = some e.2 := by decide +kernel
theorem li_218_25 : il_218.lookup 25 = some (.if_icmp .gt 47, 28) := by decide +kernel
theorem bo_218_72_1ddf00 : ∀ e ∈ ([(72, .aload_n 2, 73), (73, .iinc 5 (-1), 76), (76, .iload 5, 78), (78, .getstatic 83, 81), (81, .iload_n 0, 82), (82, .ineg, 83)] : List (Nat × Instr × Nat)), il_218.lookup e.1 = some e.2 := by decide +kernel
theorem li_218_83 : il_218.lookup 83 = some (.baload, 84) := by decide +kernel
theorem li_218_84 : il_218.lookup 84 = some (.bastore, 85) := by decide +kernel
theorem bo_218_85_7a6887 : ∀ e ∈ ([(85, .iload_n 0, 86), (86, .bipush (-9), 88)] : List (Nat × Instr × Nat)), il_218.lookup e.1 = some e.2 := by decide +kernel
theorem li_218_88 : il_218.lookup 88 = some (.if_icmp .ge 16, 91) := by decide +kernel
theorem bo_218_91_4808cf : ∀ e ∈ ([(91, .aload_n 2, 92), (92, .iinc 5 (-1), 95), (95, .iload 5, 97), (97, .getstatic 87, 100), (100, .iload_n 0, 101), (101, .ineg, 102)] : List (Nat × Instr × Nat)), il_218.lookup e.1 = some e.2 := by decide +kernel
theorem li_218_102 : il_218.lookup 102 = some (.baload, 103) := by decide +kernel
theorem li_218_103 : il_218.lookup 103 = some (.bastore, 104) := by decide +kernel
theorem bo_218_28_533662 : ∀ e ∈ ([(28, .iload_n 0, 29), (29, .bipush 100, 31)] : List (Nat × Instr × Nat)), il_218.lookup e.1 = some e.2 := by decide +kernel
theorem li_218_31 : il_218.lookup 31 = some (.idiv, 32) := by decide +kernel
theorem bo_218_32_acf113 : ∀ e ∈ ([(32, .istore_n 3, 33), (33, .iload_n 3, 34), (34, .bipush 100, 36), (36, .imul, 37), (37, .iload_n 0, 38), (38, .isub, 39), (39, .istore 4, 41), (41, .iload_n 3, 42), (42, .istore_n 0, 43), (43, .aload_n 2, 44), (44, .iinc 5 (-1), 47), (47, .iload 5, 49), (49, .getstatic 83, 52), (52, .iload 4, 54)] : List (Nat × Instr × Nat)), il_218.lookup e.1 = some e.2 := by decide +kernel
theorem li_218_54 : il_218.lookup 54 = some (.baload, 55) := by decide +kernel
theorem li_218_55 : il_218.lookup 55 = some (.bastore, 56) := by decide +kernel
theorem bo_218_56_b0d5c3 : ∀ e ∈ ([(56, .aload_n 2, 57), (57, .iinc 5 (-1), 60), (60, .iload 5, 62), (62, .getstatic 87, 65), (65, .iload 4, 67)] : List (Nat × Instr × Nat)), il_218.lookup e.1 = some e.2 := by decide +kernel
theorem li_218_67 : il_218.lookup 67 = some (.baload, 68) := by decide +kernel
theorem li_218_68 : il_218.lookup 68 = some (.bastore, 69) := by decide +kernel
theorem bo_218_69_d2296b : ∀ e ∈ ([(69, .goto (-47), 72)] : List (Nat × Instr × Nat)), il_218.lookup e.1 = some e.2 := by decide +kernel
theorem bo_218_12_26027e : ∀ e ∈ ([(12, .istore 6, 14), (14, .iload 6, 16)] : List (Nat × Instr × Nat)), il_218.lookup e.1 = some e.2 := by decide +kernel
theorem li_218_16 : il_218.lookup 16 = some (.ifCond .ne 6, 19) := by decide +kernel
theorem bo_218_19_7f125f : ∀ e ∈ ([(19, .iload_n 0, 20), (20, .ineg, 21), (21, .istore_n 0, 22)] : List (Nat × Instr × Nat)), il_218.lookup e.1 = some e.2 := by decide +kernel
theorem bo_218_0_4db342 : ∀ e ∈ ([(0, .iload_n 1, 1), (1, .istore 5, 3), (3, .iload_n 0, 4)] : List (Nat × Instr × Nat)), il_218.lookup e.1 = some e.2 := by decide +kernel
theorem li_218_4 : il_218.lookup 4 = some (.ifCond .ge 7, 7) := by decide +kernel
theorem bo_218_11_081257 : ∀ e ∈ ([(11, .iconst 0, 12)] : List (Nat × Instr × Nat)), il_218.lookup e.1 = some e.2 := by decide +kernel
theorem bo_218_7_7eef78 : ∀ e ∈ ([(7, .iconst 1, 8), (8, .goto 4, 11)] : List (Nat × Instr × Nat)), il_218.lookup e.1 = some e.2 := by decide +kernel
theorem bo_219_0_8d5162 : ∀ e ∈ ([(0, .aload_n 0, 1)] : List (Nat × Instr × Nat)), il_219.lookup e.1 = some e.2 := by decide +kernel
theorem li_219_1 : il_219.lookup 1 = some (.getfield 79, 4) := by decide +kernel
theorem bo_219_4_607491 : ∀ e ∈ ([(4, .istore_n 2, 5), (5, .iload_n 2, 6), (6, .iload_n 1, 7)] : List (Nat × Instr × Nat)), il_219.lookup e.1 = some e.2 := by decide +kernel
theorem li_219_7 : il_219.lookup 7 = some (.invokestatic 245, 10) := by decide +kernel
theorem bo_219_10_a44793 : ∀ e ∈ ([(10, .iadd, 11), (11, .istore_n 3, 12), (12, .aload_n 0, 13), (13, .iload_n 3, 14)] : List (Nat × Instr × Nat)), il_219.lookup e.1 = some e.2 := by decide +kernel
theorem li_219_14 : il_219.lookup 14 = some (.invokevirtual 100, 17) := by decide +kernel
theorem bo_219_17_509256 : ∀ e ∈ ([(17, .aload_n 0, 18)] : List (Nat × Instr × Nat)), il_219.lookup e.1 = some e.2 := by decide +kernel
theorem li_219_18 : il_219.lookup 18 = some (.invokevirtual 83, 21) := by decide +kernel
theorem li_219_21 : il_219.lookup 21 = some (.ifCond .eq 16, 24) := by decide +kernel
theorem bo_219_37_fd63c8 : ∀ e ∈ ([(37, .iload_n 1, 38), (38, .iload_n 2, 39), (39, .iload_n 3, 40), (40, .aload_n 0, 41)] : List (Nat × Instr × Nat)), il_219.lookup e.1 = some e.2 := by decide +kernel
theorem li_219_41 : il_219.lookup 41 = some (.getfield 15, 44) := by decide +kernel
theorem bo_219_24_d979aa : ∀ e ∈ ([(24, .iload_n 1, 25), (25, .iload_n 3, 26), (26, .aload_n 0, 27)] : List (Nat × Instr × Nat)), il_219.lookup e.1 = some e.2 := by decide +kernel
theorem li_219_27 : il_219.lookup 27 = some (.getfield 15, 30) := by decide +kernel
theorem li_219_30 : il_219.lookup 30 = some (.invokestatic 248, 33) := by decide +kernel
theorem bo_219_33_ce7b40 : ∀ e ∈ ([(33, .pop, 34), (34, .goto 14, 37), (48, .aload_n 0, 49), (49, .iload_n 3, 50)] : List (Nat × Instr × Nat)), il_219.lookup e.1 = some e.2 := by decide +kernel
theorem li_219_50 : il_219.lookup 50 = some (.putfield 79, 53) := by decide +kernel
theorem bo_219_53_a422c0 : ∀ e ∈ ([(53, .aload_n 0, 54)] : List (Nat × Instr × Nat)), il_219.lookup e.1 = some e.2 := by decide +kernel
theorem li_219_54 : il_219.lookup 54 = some (.areturn, 55) := by decide +kernel
theorem bo_220_0_264884 : ∀ e ∈ ([(0, .aload_n 0, 1), (1, .iload_n 1, 2)] : List (Nat × Instr × Nat)), il_220.lookup e.1 = some e.2 := by decide +kernel
theorem li_220_2 : il_220.lookup 2 = some (.invokespecial 53, 5) := by decide +kernel
theorem bo_220_5_ca77c4 : ∀ e ∈ ([(5, .pop, 6), (6, .aload_n 0, 7)] : List (Nat × Instr × Nat)), il_220.lookup e.1 = some e.2 := by decide +kernel
theorem li_220_7 : il_220.lookup 7 = some (.areturn, 8) := by decide +kernel
theorem bo_221_114_28d19b : ∀ e ∈ ([(114, .aload_n 1, 115)] : List (Nat × Instr × Nat)), il_221.lookup e.1 = some e.2 := by decide +kernel
theorem li_221_115 : il_221.lookup 115 = some (.getfield 165, 118) := by decide +kernel
theorem bo_221_118_c412ec : ∀ e ∈ ([(118, .iconst 1, 119)] : List (Nat × Instr × Nat)), il_221.lookup e.1 = some e.2 := by decide +kernel
theorem li_221_119 : il_221.lookup 119 = some (.if_icmp .le 15, 122) := by decide +kernel
theorem li_221_134 : il_221.lookup 134 = some (.return_, 135) := by decide +kernel
theorem bo_221_122_61bca2 : ∀ e ∈ ([(122, .aload_n 0, 123)] : List (Nat × Instr × Nat)), il_221.lookup e.1 = some e.2 := by decide +kernel
theorem li_221_123 : il_221.lookup 123 = some (.getfield 16, 126) := by decide +kernel
theorem bo_221_126_5d1f94 : ∀ e ∈ ([(126, .aload_n 1, 127)] : List (Nat × Instr × Nat)), il_221.lookup e.1 = some e.2 := by decide +kernel
theorem li_221_127 : il_221.lookup 127 = some (.getfield 165, 130) := by decide +kernel
theorem li_221_130 : il_221.lookup 130 = some (.invokevirtual 282, 133) := by decide +kernel
theorem bo_221_133_fe448f : ∀ e ∈ ([(133, .pop, 134)] : List (Nat × Instr × Nat)), il_221.lookup e.1 = some e.2 := by decide +kernel
theorem bo_221_104_a38d21 : ∀ e ∈ ([(104, .aload_n 0, 105)] : List (Nat × Instr × Nat)), il_221.lookup e.1 = some e.2 := by decide +kernel
theorem li_221_105 : il_221.lookup 105 = some (.getfield 16, 108) := by decide +kernel
theorem bo_221_108_99d569 : ∀ e ∈ ([(108, .bipush 41, 110)] : List (Nat × Instr × Nat)), il_221.lookup e.1 = some e.2 := by decide +kernel
theorem li_221_110 : il_221.lookup 110 = some (.invokevirtual 57, 113) := by decide +kernel
theorem bo_221_113_1912b2 : ∀ e ∈ ([(113, .pop, 114)] : List (Nat × Instr × Nat)), il_221.lookup e.1 = some e.2 := by decide +kernel
theorem bo_221_0_264884 : ∀ e ∈ ([(0, .aload_n 1, 1), (1, .ifnull 23, 4)] : List (Nat × Instr × Nat)), il_221.lookup e.1 = some e.2 := by decide +kernel
theorem li_221_24 : il_221.lookup 24 = some (.return_, 25) := by decide +kernel
theorem bo_221_0_d43a48 : ∀ e ∈ ([(0, .aload_n 1, 1), (1, .ifnull 23, 4), (4, .aload_n 1, 5)] : List (Nat × Instr × Nat)), il_221.lookup e.1 = some e.2 := by decide +kernel
theorem li_221_5 : il_221.lookup 5 = some (.getfield 160, 8) := by decide +kernel
theorem li_221_8 : il_221.lookup 8 = some (.ifCond .lt 16, 11) := by decide +kernel
theorem bo_221_11_081257 : ∀ e ∈ ([(11, .aload_n 1, 12)] : List (Nat × Instr × Nat)), il_221.lookup e.1 = some e.2 := by decide +kernel
theorem li_221_12 : il_221.lookup 12 = some (.getfield 160, 15) := by decide +kernel
theorem bo_221_15_be4250 : ∀ e ∈ ([(15, .ldc_w 307, 18)] : List (Nat × Instr × Nat)), il_221.lookup e.1 = some e.2 := by decide +kernel
theorem li_221_18 : il_221.lookup 18 = some (.invokevirtual 309, 21) := by decide +kernel
theorem li_221_21 : il_221.lookup 21 = some (.if_icmp .lt 4, 24) := by decide +kernel
theorem bo_221_25_1858f6 : ∀ e ∈ ([(25, .aload_n 0, 26)] : List (Nat × Instr × Nat)), il_221.lookup e.1 = some e.2 := by decide +kernel
theorem li_221_26 : il_221.lookup 26 = some (.getfield 16, 29) := by decide +kernel
theorem bo_221_29_ce94c9 : ∀ e ∈ ([(29, .ldc_w 307, 32), (32, .aload_n 1, 33)] : List (Nat × Instr × Nat)), il_221.lookup e.1 = some e.2 := by decide +kernel
theorem li_221_33 : il_221.lookup 33 = some (.getfield 160, 36) := by decide +kernel
theorem li_221_36 : il_221.lookup 36 = some (.invokevirtual 312, 39) := by decide +kernel
theorem li_221_39 : il_221.lookup 39 = some (.invokevirtual 57, 42) := by decide +kernel
theorem bo_221_42_610feb : ∀ e ∈ ([(42, .pop, 43), (43, .aload_n 1, 44)] : List (Nat × Instr × Nat)), il_221.lookup e.1 = some e.2 := by decide +kernel
theorem li_221_44 : il_221.lookup 44 = some (.getfield 160, 47) := by decide +kernel
theorem li_221_47 : il_221.lookup 47 = some (.invokestatic 313, 50) := by decide +kernel
theorem bo_221_50_b22ebb : ∀ e ∈ ([(50, .istore_n 2, 51), (51, .iload_n 2, 52)] : List (Nat × Instr × Nat)), il_221.lookup e.1 = some e.2 := by decide +kernel
theorem li_221_52 : il_221.lookup 52 = some (.ifCond .le 62, 55) := by decide +kernel
theorem bo_221_55_bd1207 : ∀ e ∈ ([(55, .aload_n 0, 56)] : List (Nat × Instr × Nat)), il_221.lookup e.1 = some e.2 := by decide +kernel
theorem li_221_56 : il_221.lookup 56 = some (.getfield 16, 59) := by decide +kernel
theorem bo_221_59_8c3b95 : ∀ e ∈ ([(59, .bipush 40, 61)] : List (Nat × Instr × Nat)), il_221.lookup e.1 = some e.2 := by decide +kernel
theorem li_221_61 : il_221.lookup 61 = some (.invokevirtual 57, 64) := by decide +kernel
theorem bo_221_64_23d05d : ∀ e ∈ ([(64, .pop, 65), (65, .aload_n 0, 66)] : List (Nat × Instr × Nat)), il_221.lookup e.1 = some e.2 := by decide +kernel
theorem li_221_66 : il_221.lookup 66 = some (.getfield 16, 69) := by decide +kernel
theorem bo_221_69_d2296b : ∀ e ∈ ([(69, .aload_n 1, 70)] : List (Nat × Instr × Nat)), il_221.lookup e.1 = some e.2 := by decide +kernel
theorem li_221_70 : il_221.lookup 70 = some (.getfield 166, 73) := by decide +kernel
theorem li_221_73 : il_221.lookup 73 = some (.invokevirtual 282, 76) := by decide +kernel
theorem bo_221_76_98eb4c : ∀ e ∈ ([(76, .pop, 77), (77, .iload_n 2, 78), (78, .iconst 1, 79)] : List (Nat × Instr × Nat)), il_221.lookup e.1 = some e.2 := by decide +kernel
theorem li_221_79 : il_221.lookup 79 = some (.if_icmp .le 25, 82) := by decide +kernel
theorem bo_221_82_d3719d : ∀ e ∈ ([(82, .aload_n 0, 83)] : List (Nat × Instr × Nat)), il_221.lookup e.1 = some e.2 := by decide +kernel
theorem li_221_83 : il_221.lookup 83 = some (.getfield 16, 86) := by decide +kernel
theorem bo_221_86_bff005 : ∀ e ∈ ([(86, .bipush 44, 88)] : List (Nat × Instr × Nat)), il_221.lookup e.1 = some e.2 := by decide +kernel
theorem li_221_88 : il_221.lookup 88 = some (.invokevirtual 57, 91) := by decide +kernel
theorem bo_221_91_e197d6 : ∀ e ∈ ([(91, .pop, 92), (92, .aload_n 0, 93)] : List (Nat × Instr × Nat)), il_221.lookup e.1 = some e.2 := by decide +kernel
theorem li_221_93 : il_221.lookup 93 = some (.getfield 16, 96) := by decide +kernel
theorem bo_221_96_2375ef : ∀ e ∈ ([(96, .aload_n 1, 97)] : List (Nat × Instr × Nat)), il_221.lookup e.1 = some e.2 := by decide +kernel
theorem li_221_97 : il_221.lookup 97 = some (.getfield 169, 100) := by decide +kernel
theorem li_221_100 : il_221.lookup 100 = some (.invokevirtual 282, 103) := by decide +kernel
theorem bo_221_103_98f00a : ∀ e ∈ ([(103, .pop, 104)] : List (Nat × Instr × Nat)), il_221.lookup e.1 = some e.2 := by decide +kernel
theorem bo_222_36_285c9e : ∀ e ∈ ([(36, .aload_n 0, 37), (37, .aload_n 0, 38)] : List (Nat × Instr × Nat)), il_222.lookup e.1 = some e.2 := by decide +kernel
theorem li_222_38 : il_222.lookup 38 = some (.getfield 31, 41) := by decide +kernel
theorem bo_222_41_45abaf : ∀ e ∈ ([(41, .iload_n 1, 42)] : List (Nat × Instr × Nat)), il_222.lookup e.1 = some e.2 := by decide +kernel
theorem li_222_42 : il_222.lookup 42 = some (.invokevirtual 133, 45) := by decide +kernel
theorem li_222_45 : il_222.lookup 45 = some (.invokevirtual 275, 48) := by decide +kernel
theorem bo_222_48_f60d88 : ∀ e ∈ ([(48, .iinc 1 1, 51), (51, .goto (-41), 54)] : List (Nat × Instr × Nat)), il_222.lookup e.1 = some e.2 := by decide +kernel
theorem bo_222_95_076086 : ∀ e ∈ ([(95, .aload_n 0, 96)] : List (Nat × Instr × Nat)), il_222.lookup e.1 = some e.2 := by decide +kernel
theorem li_222_96 : il_222.lookup 96 = some (.getfield 16, 99) := by decide +kernel
theorem li_222_99 : il_222.lookup 99 = some (.invokevirtual 52, 102) := by decide +kernel
theorem li_222_102 : il_222.lookup 102 = some (.ireturn, 103) := by decide +kernel
theorem bo_222_10_42a704 : ∀ e ∈ ([(10, .iload_n 1, 11), (11, .aload_n 0, 12)] : List (Nat × Instr × Nat)), il_222.lookup e.1 = some e.2 := by decide +kernel
theorem li_222_12 : il_222.lookup 12 = some (.getfield 31, 15) := by decide +kernel
theorem li_222_15 : il_222.lookup 15 = some (.getfield 80, 18) := by decide +kernel
theorem li_222_18 : il_222.lookup 18 = some (.if_icmp .gt 36, 21) := by decide +kernel
theorem bo_222_54_02ca38 : ∀ e ∈ ([(54, .aload_n 0, 55)] : List (Nat × Instr × Nat)), il_222.lookup e.1 = some e.2 := by decide +kernel
theorem li_222_55 : il_222.lookup 55 = some (.getfield 31, 58) := by decide +kernel
theorem bo_222_58_df393a : ∀ e ∈ ([(58, .aload_n 0, 59)] : List (Nat × Instr × Nat)), il_222.lookup e.1 = some e.2 := by decide +kernel
theorem li_222_59 : il_222.lookup 59 = some (.getfield 31, 62) := by decide +kernel
theorem li_222_62 : il_222.lookup 62 = some (.getfield 80, 65) := by decide +kernel
theorem bo_222_65_dc096c : ∀ e ∈ ([(65, .iconst 1, 66), (66, .iadd, 67)] : List (Nat × Instr × Nat)), il_222.lookup e.1 = some e.2 := by decide +kernel
theorem li_222_67 : il_222.lookup 67 = some (.invokevirtual 279, 70) := by decide +kernel
theorem bo_222_70_c5dfb8 : ∀ e ∈ ([(70, .istore_n 1, 71), (71, .iload_n 1, 72), (72, .iconst 1, 73)] : List (Nat × Instr × Nat)), il_222.lookup e.1 = some e.2 := by decide +kernel
theorem li_222_73 : il_222.lookup 73 = some (.if_icmp .le 22, 76) := by decide +kernel
theorem bo_222_76_1522cc : ∀ e ∈ ([(76, .aload_n 0, 77)] : List (Nat × Instr × Nat)), il_222.lookup e.1 = some e.2 := by decide +kernel
theorem li_222_77 : il_222.lookup 77 = some (.getfield 16, 80) := by decide +kernel
theorem bo_222_80_1d0e60 : ∀ e ∈ ([(80, .bipush 36, 82)] : List (Nat × Instr × Nat)), il_222.lookup e.1 = some e.2 := by decide +kernel
theorem li_222_82 : il_222.lookup 82 = some (.invokevirtual 57, 85) := by decide +kernel
theorem bo_222_85_7a6887 : ∀ e ∈ ([(85, .pop, 86), (86, .aload_n 0, 87)] : List (Nat × Instr × Nat)), il_222.lookup e.1 = some e.2 := by decide +kernel
theorem li_222_87 : il_222.lookup 87 = some (.getfield 16, 90) := by decide +kernel
theorem bo_222_90_d3b5bf : ∀ e ∈ ([(90, .iload_n 1, 91)] : List (Nat × Instr × Nat)), il_222.lookup e.1 = some e.2 := by decide +kernel
theorem li_222_91 : il_222.lookup 91 = some (.invokevirtual 282, 94) := by decide +kernel
theorem bo_222_94_6615ab : ∀ e ∈ ([(94, .pop, 95)] : List (Nat × Instr × Nat)), il_222.lookup e.1 = some e.2 := by decide +kernel
theorem bo_222_21_13696e : ∀ e ∈ ([(21, .iload_n 1, 22), (22, .iconst 1, 23)] : List (Nat × Instr × Nat)), il_222.lookup e.1 = some e.2 := by decide +kernel
theorem li_222_23 : il_222.lookup 23 = some (.if_icmp .le 13, 26) := by decide +kernel
theorem bo_222_26_bd3b31 : ∀ e ∈ ([(26, .aload_n 0, 27)] : List (Nat × Instr × Nat)), il_222.lookup e.1 = some e.2 := by decide +kernel
theorem li_222_27 : il_222.lookup 27 = some (.getfield 16, 30) := by decide +kernel
theorem bo_222_30_0b4e4a : ∀ e ∈ ([(30, .bipush 124, 32)] : List (Nat × Instr × Nat)), il_222.lookup e.1 = some e.2 := by decide +kernel
theorem li_222_32 : il_222.lookup 32 = some (.invokevirtual 57, 35) := by decide +kernel
theorem bo_222_35_a976ef : ∀ e ∈ ([(35, .pop, 36)] : List (Nat × Instr × Nat)), il_222.lookup e.1 = some e.2 := by decide +kernel
theorem bo_222_0_8d5162 : ∀ e ∈ ([(0, .aload_n 0, 1)] : List (Nat × Instr × Nat)), il_222.lookup e.1 = some e.2 := by decide +kernel
theorem li_222_1 : il_222.lookup 1 = some (.getfield 16, 4) := by decide +kernel
theorem bo_222_4_e962e2 : ∀ e ∈ ([(4, .iconst 0, 5)] : List (Nat × Instr × Nat)), il_222.lookup e.1 = some e.2 := by decide +kernel
theorem li_222_5 : il_222.lookup 5 = some (.invokevirtual 65, 8) := by decide +kernel
theorem bo_222_8_0adad6 : ∀ e ∈ ([(8, .iconst 1, 9), (9, .istore_n 1, 10)] : List (Nat × Instr × Nat)), il_222.lookup e.1 = some e.2 := by decide +kernel
theorem bo_223_0_8d5162 : ∀ e ∈ ([(0, .aload_n 0, 1)] : List (Nat × Instr × Nat)), il_223.lookup e.1 = some e.2 := by decide +kernel
theorem li_223_1 : il_223.lookup 1 = some (.getfield 193, 4) := by decide +kernel
theorem bo_223_4_e962e2 : ∀ e ∈ ([(4, .aload_n 0, 5)] : List (Nat × Instr × Nat)), il_223.lookup e.1 = some e.2 := by decide +kernel
theorem li_223_5 : il_223.lookup 5 = some (.getfield 402, 8) := by decide +kernel
theorem bo_223_8_383530 : ∀ e ∈ ([(8, .iload_n 1, 9)] : List (Nat × Instr × Nat)), il_223.lookup e.1 = some e.2 := by decide +kernel
theorem li_223_9 : il_223.lookup 9 = some (.iastore, 10) := by decide +kernel
theorem bo_223_10_42a704 : ∀ e ∈ ([(10, .aload_n 0, 11), (11, .dup, 12)] : List (Nat × Instr × Nat)), il_223.lookup e.1 = some e.2 := by decide +kernel
theorem li_223_12 : il_223.lookup 12 = some (.getfield 402, 15) := by decide +kernel
theorem bo_223_15_d45c32 : ∀ e ∈ ([(15, .iconst 1, 16), (16, .iadd, 17)] : List (Nat × Instr × Nat)), il_223.lookup e.1 = some e.2 := by decide +kernel
theorem li_223_17 : il_223.lookup 17 = some (.putfield 402, 20) := by decide +kernel
theorem li_223_20 : il_223.lookup 20 = some (.return_, 21) := by decide +kernel
theorem bo_224_38_8ee7e4 : ∀ e ∈ ([(38, .aload_n 0, 39), (39, .bipush 48, 41), (41, .iload_n 2, 42), (42, .bipush 10, 44)] : List (Nat × Instr × Nat)), il_224.lookup e.1 = some e.2 := by decide +kernel
theorem li_224_44 : il_224.lookup 44 = some (.irem, 45) := by decide +kernel
theorem bo_224_45_8e29f2 : ∀ e ∈ ([(45, .iadd, 46)] : List (Nat × Instr × Nat)), il_224.lookup e.1 = some e.2 := by decide +kernel
theorem li_224_46 : il_224.lookup 46 = some (.invokevirtual 405, 49) := by decide +kernel
theorem li_224_49 : il_224.lookup 49 = some (.return_, 50) := by decide +kernel
theorem bo_224_20_638673 : ∀ e ∈ ([(20, .istore_n 2, 21), (21, .iload_n 2, 22), (22, .bipush 9, 24)] : List (Nat × Instr × Nat)), il_224.lookup e.1 = some e.2 := by decide +kernel
theorem li_224_24 : il_224.lookup 24 = some (.if_icmp .le 14, 27) := by decide +kernel
theorem bo_224_27_2d5c0c : ∀ e ∈ ([(27, .aload_n 0, 28), (28, .bipush 48, 30), (30, .iload_n 2, 31), (31, .bipush 10, 33)] : List (Nat × Instr × Nat)), il_224.lookup e.1 = some e.2 := by decide +kernel
theorem li_224_33 : il_224.lookup 33 = some (.idiv, 34) := by decide +kernel
theorem bo_224_34_130638 : ∀ e ∈ ([(34, .iadd, 35)] : List (Nat × Instr × Nat)), il_224.lookup e.1 = some e.2 := by decide +kernel
theorem li_224_35 : il_224.lookup 35 = some (.invokevirtual 405, 38) := by decide +kernel
theorem bo_224_10_2a30f5 : ∀ e ∈ ([(10, .iload_n 1, 11)] : List (Nat × Instr × Nat)), il_224.lookup e.1 = some e.2 := by decide +kernel
theorem li_224_11 : il_224.lookup 11 = some (.ifCond .ge 8, 14) := by decide +kernel
theorem bo_224_19_1a8444 : ∀ e ∈ ([(19, .iload_n 1, 20)] : List (Nat × Instr × Nat)), il_224.lookup e.1 = some e.2 := by decide +kernel
theorem bo_224_14_7ac8d1 : ∀ e ∈ ([(14, .iload_n 1, 15), (15, .ineg, 16), (16, .goto 4, 19)] : List (Nat × Instr × Nat)), il_224.lookup e.1 = some e.2 := by decide +kernel
theorem bo_224_0_8d5162 : ∀ e ∈ ([(0, .iload_n 1, 1)] : List (Nat × Instr × Nat)), il_224.lookup e.1 = some e.2 := by decide +kernel
theorem li_224_1 : il_224.lookup 1 = some (.ifCond .ge 9, 4) := by decide +kernel
theorem bo_224_4_40e659 : ∀ e ∈ ([(4, .aload_n 0, 5), (5, .bipush 45, 7)] : List (Nat × Instr × Nat)), il_224.lookup e.1 = some e.2 := by decide +kernel
theorem li_224_7 : il_224.lookup 7 = some (.invokevirtual 405, 10) := by decide +kernel
theorem bo_225_228_9c3780 : ∀ e ∈ ([(228, .aload_n 0, 229)] : List (Nat × Instr × Nat)), il_225.lookup e.1 = some e.2 := by decide +kernel
theorem li_225_229 : il_225.lookup 229 = some (.getfield 402, 232) := by decide +kernel
theorem li_225_232 : il_225.lookup 232 = some (.ireturn, 233) := by decide +kernel
theorem bo_225_199_c60df3 : ∀ e ∈ ([(199, .aload_n 0, 200)] : List (Nat × Instr × Nat)), il_225.lookup e.1 = some e.2 := by decide +kernel
theorem li_225_200 : il_225.lookup 200 = some (.getfield 22, 203) := by decide +kernel
theorem bo_225_203_321b49 : ∀ e ∈ ([(203, .aload_n 0, 204)] : List (Nat × Instr × Nat)), il_225.lookup e.1 = some e.2 := by decide +kernel
theorem li_225_204 : il_225.lookup 204 = some (.invokevirtual 199, 207) := by decide +kernel
theorem li_225_207 : il_225.lookup 207 = some (.iaload, 208) := by decide +kernel
theorem bo_225_208_a74105 : ∀ e ∈ ([(208, .iconst 1, 209)] : List (Nat × Instr × Nat)), il_225.lookup e.1 = some e.2 := by decide +kernel
theorem li_225_209 : il_225.lookup 209 = some (.if_icmp .le 19, 212) := by decide +kernel
theorem bo_225_212_e7fcee : ∀ e ∈ ([(212, .aload_n 0, 213), (213, .bipush 48, 215), (215, .aload_n 0, 216)] : List (Nat × Instr × Nat)), il_225.lookup e.1 = some e.2 := by decide +kernel
theorem li_225_216 : il_225.lookup 216 = some (.getfield 22, 219) := by decide +kernel
theorem bo_225_219_d10ead : ∀ e ∈ ([(219, .aload_n 0, 220)] : List (Nat × Instr × Nat)), il_225.lookup e.1 = some e.2 := by decide +kernel
theorem li_225_220 : il_225.lookup 220 = some (.invokevirtual 199, 223) := by decide +kernel
theorem li_225_223 : il_225.lookup 223 = some (.iaload, 224) := by decide +kernel
theorem bo_225_224_65e609 : ∀ e ∈ ([(224, .iadd, 225)] : List (Nat × Instr × Nat)), il_225.lookup e.1 = some e.2 := by decide +kernel
theorem li_225_225 : il_225.lookup 225 = some (.invokevirtual 405, 228) := by decide +kernel
theorem bo_225_174_82f545 : ∀ e ∈ ([(174, .iinc 1 1, 177), (177, .goto (-170), 180)] : List (Nat × Instr × Nat)), il_225.lookup e.1 = some e.2 := by decide +kernel
theorem bo_225_151_b28053 : ∀ e ∈ ([(151, .aload_n 0, 152)] : List (Nat × Instr × Nat)), il_225.lookup e.1 = some e.2 := by decide +kernel
theorem li_225_152 : il_225.lookup 152 = some (.getfield 22, 155) := by decide +kernel
theorem bo_225_155_2973a9 : ∀ e ∈ ([(155, .iload_n 1, 156)] : List (Nat × Instr × Nat)), il_225.lookup e.1 = some e.2 := by decide +kernel
theorem li_225_156 : il_225.lookup 156 = some (.iaload, 157) := by decide +kernel
theorem bo_225_157_f223cb : ∀ e ∈ ([(157, .iconst 1, 158)] : List (Nat × Instr × Nat)), il_225.lookup e.1 = some e.2 := by decide +kernel
theorem li_225_158 : il_225.lookup 158 = some (.if_icmp .le 16, 161) := by decide +kernel
theorem bo_225_161_9eb73d : ∀ e ∈ ([(161, .aload_n 0, 162), (162, .bipush 48, 164), (164, .aload_n 0, 165)] : List (Nat × Instr × Nat)), il_225.lookup e.1 = some e.2 := by decide +kernel
theorem li_225_165 : il_225.lookup 165 = some (.getfield 22, 168) := by decide +kernel
theorem bo_225_168_8f09c4 : ∀ e ∈ ([(168, .iload_n 1, 169)] : List (Nat × Instr × Nat)), il_225.lookup e.1 = some e.2 := by decide +kernel
theorem li_225_169 : il_225.lookup 169 = some (.iaload, 170) := by decide +kernel
theorem bo_225_170_72150b : ∀ e ∈ ([(170, .iadd, 171)] : List (Nat × Instr × Nat)), il_225.lookup e.1 = some e.2 := by decide +kernel
theorem li_225_171 : il_225.lookup 171 = some (.invokevirtual 405, 174) := by decide +kernel
theorem bo_225_145_75c003 : ∀ e ∈ ([(145, .aload_n 0, 146), (146, .bipush 41, 148)] : List (Nat × Instr × Nat)), il_225.lookup e.1 = some e.2 := by decide +kernel
theorem li_225_148 : il_225.lookup 148 = some (.invokevirtual 405, 151) := by decide +kernel
theorem bo_225_130_7ab0fb : ∀ e ∈ ([(130, .iload_n 2, 131), (131, .iconst 3, 132)] : List (Nat × Instr × Nat)), il_225.lookup e.1 = some e.2 := by decide +kernel
theorem li_225_132 : il_225.lookup 132 = some (.if_icmp .ge 13, 135) := by decide +kernel
theorem bo_225_135_86a7c1 : ∀ e ∈ ([(135, .aload_n 0, 136), (136, .aload_n 0, 137)] : List (Nat × Instr × Nat)), il_225.lookup e.1 = some e.2 := by decide +kernel
theorem li_225_137 : il_225.lookup 137 = some (.getfield 19, 140) := by decide +kernel
theorem bo_225_140_ab601d : ∀ e ∈ ([(140, .iload_n 1, 141)] : List (Nat × Instr × Nat)), il_225.lookup e.1 = some e.2 := by decide +kernel
theorem li_225_141 : il_225.lookup 141 = some (.iaload, 142) := by decide +kernel
theorem li_225_142 : il_225.lookup 142 = some (.invokevirtual 408, 145) := by decide +kernel
theorem li_225_95 : il_225.lookup 95 = some (.invokevirtual 405, 98) := by decide +kernel
theorem bo_225_98_51a86b : ∀ e ∈ ([(98, .iload_n 2, 99), (99, .iconst 5, 100)] : List (Nat × Instr × Nat)), il_225.lookup e.1 = some e.2 := by decide +kernel
theorem li_225_100 : il_225.lookup 100 = some (.if_icmp .ge 51, 103) := by decide +kernel
theorem bo_225_103_b58a7c : ∀ e ∈ ([(103, .aload_n 0, 104), (104, .bipush 40, 106)] : List (Nat × Instr × Nat)), il_225.lookup e.1 = some e.2 := by decide +kernel
theorem li_225_106 : il_225.lookup 106 = some (.invokevirtual 405, 109) := by decide +kernel
theorem bo_225_109_644814 : ∀ e ∈ ([(109, .aload_n 0, 110), (110, .aload_n 0, 111)] : List (Nat × Instr × Nat)), il_225.lookup e.1 = some e.2 := by decide +kernel
theorem li_225_111 : il_225.lookup 111 = some (.getfield 16, 114) := by decide +kernel
theorem bo_225_114_28d19b : ∀ e ∈ ([(114, .iload_n 1, 115)] : List (Nat × Instr × Nat)), il_225.lookup e.1 = some e.2 := by decide +kernel
theorem li_225_115 : il_225.lookup 115 = some (.iaload, 116) := by decide +kernel
theorem li_225_116 : il_225.lookup 116 = some (.invokevirtual 408, 119) := by decide +kernel
theorem bo_225_119_c92df6 : ∀ e ∈ ([(119, .iload_n 2, 120), (120, .iconst 3, 121)] : List (Nat × Instr × Nat)), il_225.lookup e.1 = some e.2 := by decide +kernel
theorem li_225_121 : il_225.lookup 121 = some (.if_icmp .ge 9, 124) := by decide +kernel
theorem bo_225_124_a52981 : ∀ e ∈ ([(124, .aload_n 0, 125), (125, .bipush 44, 127)] : List (Nat × Instr × Nat)), il_225.lookup e.1 = some e.2 := by decide +kernel
theorem li_225_127 : il_225.lookup 127 = some (.invokevirtual 405, 130) := by decide +kernel
theorem bo_225_33_9ed66c : ∀ e ∈ ([(33, .aload_n 0, 34), (34, .iload_n 2, 35)] : List (Nat × Instr × Nat)), il_225.lookup e.1 = some e.2 := by decide +kernel
theorem li_225_35 : il_225.lookup 35 = some (.ifCond .ne 8, 38) := by decide +kernel
theorem bo_225_43_98bd08 : ∀ e ∈ ([(43, .iload_n 2, 44), (44, .iconst 1, 45)] : List (Nat × Instr × Nat)), il_225.lookup e.1 = some e.2 := by decide +kernel
theorem li_225_45 : il_225.lookup 45 = some (.if_icmp .ne 8, 48) := by decide +kernel
theorem bo_225_53_2770e1 : ∀ e ∈ ([(53, .iload_n 2, 54), (54, .iconst 2, 55)] : List (Nat × Instr × Nat)), il_225.lookup e.1 = some e.2 := by decide +kernel
theorem li_225_55 : il_225.lookup 55 = some (.if_icmp .ne 8, 58) := by decide +kernel
theorem bo_225_63_92b333 : ∀ e ∈ ([(63, .iload_n 2, 64), (64, .iconst 3, 65)] : List (Nat × Instr × Nat)), il_225.lookup e.1 = some e.2 := by decide +kernel
theorem li_225_65 : il_225.lookup 65 = some (.if_icmp .ne 8, 68) := by decide +kernel
theorem bo_225_73_f02d4c : ∀ e ∈ ([(73, .iload_n 2, 74), (74, .iconst 4, 75)] : List (Nat × Instr × Nat)), il_225.lookup e.1 = some e.2 := by decide +kernel
theorem li_225_75 : il_225.lookup 75 = some (.if_icmp .ne 8, 78) := by decide +kernel
theorem bo_225_83_ae8d26 : ∀ e ∈ ([(83, .iload_n 2, 84), (84, .iconst 5, 85)] : List (Nat × Instr × Nat)), il_225.lookup e.1 = some e.2 := by decide +kernel
theorem li_225_85 : il_225.lookup 85 = some (.if_icmp .ne 8, 88) := by decide +kernel
theorem bo_225_93_7021a1 : ∀ e ∈ ([(93, .bipush 114, 95)] : List (Nat × Instr × Nat)), il_225.lookup e.1 = some e.2 := by decide +kernel
theorem bo_225_88_8d218a : ∀ e ∈ ([(88, .bipush 100, 90), (90, .goto 5, 93)] : List (Nat × Instr × Nat)), il_225.lookup e.1 = some e.2 := by decide +kernel
theorem bo_225_78_376c49 : ∀ e ∈ ([(78, .bipush 115, 80), (80, .goto 15, 83)] : List (Nat × Instr × Nat)), il_225.lookup e.1 = some e.2 := by decide +kernel
theorem bo_225_68_c504be : ∀ e ∈ ([(68, .bipush 99, 70), (70, .goto 25, 73)] : List (Nat × Instr × Nat)), il_225.lookup e.1 = some e.2 := by decide +kernel
theorem bo_225_58_8f1ca4 : ∀ e ∈ ([(58, .bipush 107, 60), (60, .goto 35, 63)] : List (Nat × Instr × Nat)), il_225.lookup e.1 = some e.2 := by decide +kernel
theorem bo_225_48_ef5aec : ∀ e ∈ ([(48, .bipush 102, 50), (50, .goto 45, 53)] : List (Nat × Instr × Nat)), il_225.lookup e.1 = some e.2 := by decide +kernel
theorem bo_225_38_475f46 : ∀ e ∈ ([(38, .bipush 109, 40), (40, .goto 55, 43)] : List (Nat × Instr × Nat)), il_225.lookup e.1 = some e.2 := by decide +kernel
theorem bo_225_7_7eef78 : ∀ e ∈ ([(7, .iload_n 1, 8), (8, .aload_n 0, 9)] : List (Nat × Instr × Nat)), il_225.lookup e.1 = some e.2 := by decide +kernel
theorem li_225_9 : il_225.lookup 9 = some (.getfield 196, 12) := by decide +kernel
theorem li_225_12 : il_225.lookup 12 = some (.if_icmp .gt 168, 15) := by decide +kernel
theorem bo_225_180_b82c80 : ∀ e ∈ ([(180, .aload_n 0, 181)] : List (Nat × Instr × Nat)), il_225.lookup e.1 = some e.2 := by decide +kernel
theorem li_225_181 : il_225.lookup 181 = some (.getfield 22, 184) := by decide +kernel
theorem bo_225_184_35f04e : ∀ e ∈ ([(184, .aload_n 0, 185)] : List (Nat × Instr × Nat)), il_225.lookup e.1 = some e.2 := by decide +kernel
theorem li_225_185 : il_225.lookup 185 = some (.invokevirtual 199, 188) := by decide +kernel
theorem li_225_188 : il_225.lookup 188 = some (.iaload, 189) := by decide +kernel
theorem bo_225_189_6262b6 : ∀ e ∈ ([(189, .iconst 1, 190)] : List (Nat × Instr × Nat)), il_225.lookup e.1 = some e.2 := by decide +kernel
theorem li_225_190 : il_225.lookup 190 = some (.if_icmp .le 9, 193) := by decide +kernel
theorem bo_225_193_16536c : ∀ e ∈ ([(193, .aload_n 0, 194), (194, .bipush 36, 196)] : List (Nat × Instr × Nat)), il_225.lookup e.1 = some e.2 := by decide +kernel
theorem li_225_196 : il_225.lookup 196 = some (.invokevirtual 405, 199) := by decide +kernel
theorem bo_225_15_be4250 : ∀ e ∈ ([(15, .aload_n 0, 16)] : List (Nat × Instr × Nat)), il_225.lookup e.1 = some e.2 := by decide +kernel
theorem li_225_16 : il_225.lookup 16 = some (.getfield 13, 19) := by decide +kernel
theorem bo_225_19_1a8444 : ∀ e ∈ ([(19, .iload_n 1, 20)] : List (Nat × Instr × Nat)), il_225.lookup e.1 = some e.2 := by decide +kernel
theorem li_225_20 : il_225.lookup 20 = some (.iaload, 21) := by decide +kernel
theorem bo_225_21_cd309e : ∀ e ∈ ([(21, .istore_n 2, 22), (22, .iload_n 1, 23), (23, .iconst 1, 24)] : List (Nat × Instr × Nat)), il_225.lookup e.1 = some e.2 := by decide +kernel
theorem li_225_24 : il_225.lookup 24 = some (.if_icmp .le 9, 27) := by decide +kernel
theorem bo_225_27_fe3fdb : ∀ e ∈ ([(27, .aload_n 0, 28), (28, .bipush 124, 30)] : List (Nat × Instr × Nat)), il_225.lookup e.1 = some e.2 := by decide +kernel
theorem li_225_30 : il_225.lookup 30 = some (.invokevirtual 405, 33) := by decide +kernel
theorem bo_225_0_264884 : ∀ e ∈ ([(0, .aload_n 0, 1), (1, .iconst 0, 2)] : List (Nat × Instr × Nat)), il_225.lookup e.1 = some e.2 := by decide +kernel
theorem li_225_2 : il_225.lookup 2 = some (.putfield 402, 5) := by decide +kernel
theorem bo_225_5_ca77c4 : ∀ e ∈ ([(5, .iconst 1, 6), (6, .istore_n 1, 7)] : List (Nat × Instr × Nat)), il_225.lookup e.1 = some e.2 := by decide +kernel
theorem bo_226_0_8d5162 : ∀ e ∈ ([(0, .iload_n 1, 1)] : List (Nat × Instr × Nat)), il_226.lookup e.1 = some e.2 := by decide +kernel
theorem li_226_1 : il_226.lookup 1 = some (.ifCond .lt 14, 4) := by decide +kernel
theorem bo_226_15_115ced : ∀ e ∈ ([(15, .ldc 137, 17), (17, .goto 11, 20)] : List (Nat × Instr × Nat)), il_226.lookup e.1 = some e.2 := by decide +kernel
theorem li_226_28 : il_226.lookup 28 = some (.ireturn, 29) := by decide +kernel
theorem bo_226_4_40e659 : ∀ e ∈ ([(4, .iload_n 1, 5), (5, .aload_n 0, 6)] : List (Nat × Instr × Nat)), il_226.lookup e.1 = some e.2 := by decide +kernel
theorem li_226_6 : il_226.lookup 6 = some (.getfield 16, 9) := by decide +kernel
theorem li_226_9 : il_226.lookup 9 = some (.invokevirtual 52, 12) := by decide +kernel
theorem li_226_12 : il_226.lookup 12 = some (.if_icmp .lt 8, 15) := by decide +kernel
theorem bo_226_20_baa9a0 : ∀ e ∈ ([(20, .aload_n 0, 21)] : List (Nat × Instr × Nat)), il_226.lookup e.1 = some e.2 := by decide +kernel
theorem li_226_21 : il_226.lookup 21 = some (.getfield 16, 24) := by decide +kernel
theorem bo_226_24_99aa1d : ∀ e ∈ ([(24, .iload_n 1, 25)] : List (Nat × Instr × Nat)), il_226.lookup e.1 = some e.2 := by decide +kernel
theorem li_226_25 : il_226.lookup 25 = some (.invokevirtual 285, 28) := by decide +kernel
theorem bo_227_0_8b3750 : ∀ e ∈ ([(0, .iload_n 1, 1), (1, .iconst 0, 2), (2, .aload_n 0, 3)] : List (Nat × Instr × Nat)), il_227.lookup e.1 = some e.2 := by decide +kernel
theorem li_227_3 : il_227.lookup 3 = some (.getfield 402, 6) := by decide +kernel
theorem bo_227_6_e618ed : ∀ e ∈ ([(6, .iconst 1, 7), (7, .isub, 8)] : List (Nat × Instr × Nat)), il_227.lookup e.1 = some e.2 := by decide +kernel
theorem li_227_8 : il_227.lookup 8 = some (.invokestatic 203, 11) := by decide +kernel
theorem li_227_11 : il_227.lookup 11 = some (.ifCond .eq 12, 14) := by decide +kernel
theorem bo_227_23_b37e12 : ∀ e ∈ ([(23, .ldc_w 309, 26)] : List (Nat × Instr × Nat)), il_227.lookup e.1 = some e.2 := by decide +kernel
theorem li_227_26 : il_227.lookup 26 = some (.ireturn, 27) := by decide +kernel
theorem bo_227_14_3e81ce : ∀ e ∈ ([(14, .aload_n 0, 15)] : List (Nat × Instr × Nat)), il_227.lookup e.1 = some e.2 := by decide +kernel
theorem li_227_15 : il_227.lookup 15 = some (.getfield 193, 18) := by decide +kernel
theorem bo_227_18_2b31d8 : ∀ e ∈ ([(18, .iload_n 1, 19)] : List (Nat × Instr × Nat)), il_227.lookup e.1 = some e.2 := by decide +kernel
theorem li_227_19 : il_227.lookup 19 = some (.iaload, 20) := by decide +kernel
theorem bo_227_20_baa9a0 : ∀ e ∈ ([(20, .goto 6, 23)] : List (Nat × Instr × Nat)), il_227.lookup e.1 = some e.2 := by decide +kernel
theorem bo_228_0_8d5162 : ∀ e ∈ ([(0, .aload_n 0, 1)] : List (Nat × Instr × Nat)), il_228.lookup e.1 = some e.2 := by decide +kernel
theorem li_228_1 : il_228.lookup 1 = some (.getfield 31, 4) := by decide +kernel
theorem li_228_4 : il_228.lookup 4 = some (.getfield 101, 7) := by decide +kernel
theorem li_228_7 : il_228.lookup 7 = some (.getfield 105, 10) := by decide +kernel
theorem bo_228_10_42a704 : ∀ e ∈ ([(10, .istore_n 1, 11), (11, .aload_n 0, 12)] : List (Nat × Instr × Nat)), il_228.lookup e.1 = some e.2 := by decide +kernel
theorem li_228_12 : il_228.lookup 12 = some (.getfield 31, 15) := by decide +kernel
theorem li_228_15 : il_228.lookup 15 = some (.getfield 101, 18) := by decide +kernel
theorem li_228_18 : il_228.lookup 18 = some (.invokevirtual 289, 21) := by decide +kernel
theorem bo_228_21_46c79c : ∀ e ∈ ([(21, .aload_n 0, 22)] : List (Nat × Instr × Nat)), il_228.lookup e.1 = some e.2 := by decide +kernel
theorem li_228_22 : il_228.lookup 22 = some (.getfield 31, 25) := by decide +kernel
theorem li_228_25 : il_228.lookup 25 = some (.invokevirtual 292, 28) := by decide +kernel
theorem bo_228_28_f39cd0 : ∀ e ∈ ([(28, .aload_n 0, 29)] : List (Nat × Instr × Nat)), il_228.lookup e.1 = some e.2 := by decide +kernel
theorem li_228_29 : il_228.lookup 29 = some (.getfield 40, 32) := by decide +kernel
theorem li_228_32 : il_228.lookup 32 = some (.invokevirtual 77, 35) := by decide +kernel
theorem bo_228_35_a976ef : ∀ e ∈ ([(35, .iload_n 1, 36)] : List (Nat × Instr × Nat)), il_228.lookup e.1 = some e.2 := by decide +kernel
theorem li_228_36 : il_228.lookup 36 = some (.ireturn, 37) := by decide +kernel
theorem bo_229_0_8d5162 : ∀ e ∈ ([(0, .aload_n 0, 1)] : List (Nat × Instr × Nat)), il_229.lookup e.1 = some e.2 := by decide +kernel
theorem li_229_1 : il_229.lookup 1 = some (.getfield 275, 4) := by decide +kernel
theorem bo_229_4_607491 : ∀ e ∈ ([(4, .istore_n 1, 5), (5, .aload_n 0, 6), (6, .iconst 0, 7)] : List (Nat × Instr × Nat)), il_229.lookup e.1 = some e.2 := by decide +kernel
theorem li_229_7 : il_229.lookup 7 = some (.putfield 275, 10) := by decide +kernel
theorem bo_229_10_2a30f5 : ∀ e ∈ ([(10, .aload_n 0, 11)] : List (Nat × Instr × Nat)), il_229.lookup e.1 = some e.2 := by decide +kernel
theorem li_229_11 : il_229.lookup 11 = some (.invokevirtual 240, 14) := by decide +kernel
theorem bo_229_14_3e81ce : ∀ e ∈ ([(14, .iload_n 1, 15)] : List (Nat × Instr × Nat)), il_229.lookup e.1 = some e.2 := by decide +kernel
theorem li_229_15 : il_229.lookup 15 = some (.ireturn, 16) := by decide +kernel
theorem bo_230_772_daf7e2 : ∀ e ∈ ([(772, .iinc 3 5, 775), (775, .goto (-757), 778)] : List (Nat × Instr × Nat)), il_230.lookup e.1 = some e.2 := by decide +kernel
theorem bo_230_18_95a4c9 : ∀ e ∈ ([(18, .iload_n 3, 19), (19, .aload_n 0, 20), (20, .arraylength, 21), (21, .iconst 5, 22), (22, .isub, 23)] : List (Nat × Instr × Nat)), il_230.lookup e.1 = some e.2 := by decide +kernel
theorem li_230_23 : il_230.lookup 23 = some (.if_icmp .gt 755, 26) := by decide +kernel
theorem bo_230_778_f2c47b : ∀ e ∈ ([(778, .iconst 1, 779)] : List (Nat × Instr × Nat)), il_230.lookup e.1 = some e.2 := by decide +kernel
theorem li_230_779 : il_230.lookup 779 = some (.ireturn, 780) := by decide +kernel
theorem bo_230_26_539da0 : ∀ e ∈ ([(26, .aload_n 0, 27), (27, .iload_n 3, 28)] : List (Nat × Instr × Nat)), il_230.lookup e.1 = some e.2 := by decide +kernel
theorem li_230_28 : il_230.lookup 28 = some (.iaload, 29) := by decide +kernel
theorem bo_230_29_3cf161 : ∀ e ∈ ([(29, .bipush 31, 31), (31, .iand, 32)] : List (Nat × Instr × Nat)), il_230.lookup e.1 = some e.2 := by decide +kernel
theorem li_230_32 : il_230.lookup 32 = some (.tableswitch 740 0 21 #[104, 137, 150, 203, 236, 259, 272, 285, 298, 331, 354, 387, 430, 483, 526, 569, 592, 625, 658, 691, 704, 727], 136) := by decide +kernel
theorem bo_230_136_e764b7 : ∀ e ∈ ([(136, .aload_n 1, 137), (137, .aload_n 0, 138), (138, .iload_n 3, 139), (139, .iconst 1, 140), (140, .iadd, 141)] : List (Nat × Instr × Nat)), il_230.lookup e.1 = some e.2 := by decide +kernel
theorem li_230_141 : il_230.lookup 141 = some (.iaload, 142) := by decide +kernel
theorem bo_230_142_97b6e1 : ∀ e ∈ ([(142, .aload_n 0, 143), (143, .iload_n 3, 144), (144, .iconst 2, 145), (145, .iadd, 146)] : List (Nat × Instr × Nat)), il_230.lookup e.1 = some e.2 := by decide +kernel
theorem li_230_146 : il_230.lookup 146 = some (.iaload, 147) := by decide +kernel
theorem li_230_147 : il_230.lookup 147 = some (.invokevirtual 13, 150) := by decide +kernel
theorem bo_230_150_300f83 : ∀ e ∈ ([(150, .aload_n 2, 151), (151, .aload_n 0, 152), (152, .iload_n 3, 153), (153, .iconst 1, 154), (154, .iadd, 155)] : List (Nat × Instr × Nat)), il_230.lookup e.1 = some e.2 := by decide +kernel
theorem li_230_155 : il_230.lookup 155 = some (.iaload, 156) := by decide +kernel
theorem bo_230_156_fa80c4 : ∀ e ∈ ([(156, .aload_n 0, 157), (157, .iload_n 3, 158), (158, .iconst 2, 159), (159, .iadd, 160)] : List (Nat × Instr × Nat)), il_230.lookup e.1 = some e.2 := by decide +kernel
theorem li_230_160 : il_230.lookup 160 = some (.iaload, 161) := by decide +kernel
theorem li_230_161 : il_230.lookup 161 = some (.invokevirtual 17, 164) := by decide +kernel
theorem li_230_164 : il_230.lookup 164 = some (.if_icmp .eq 608, 167) := by decide +kernel
theorem bo_230_167_00076e : ∀ e ∈ ([(167, .iconst 0, 168)] : List (Nat × Instr × Nat)), il_230.lookup e.1 = some e.2 := by decide +kernel
theorem li_230_168 : il_230.lookup 168 = some (.ireturn, 169) := by decide +kernel
theorem bo_230_169_66a7ab : ∀ e ∈ ([(169, .aload_n 1, 170)] : List (Nat × Instr × Nat)), il_230.lookup e.1 = some e.2 := by decide +kernel
theorem li_230_170 : il_230.lookup 170 = some (.invokevirtual 18, 173) := by decide +kernel
theorem bo_230_173_5c8c37 : ∀ e ∈ ([(173, .aload_n 2, 174)] : List (Nat × Instr × Nat)), il_230.lookup e.1 = some e.2 := by decide +kernel
theorem li_230_174 : il_230.lookup 174 = some (.invokevirtual 22, 177) := by decide +kernel
theorem li_230_177 : il_230.lookup 177 = some (.if_icmp .eq 595, 180) := by decide +kernel
theorem bo_230_180_b82c80 : ∀ e ∈ ([(180, .iconst 0, 181)] : List (Nat × Instr × Nat)), il_230.lookup e.1 = some e.2 := by decide +kernel
theorem li_230_181 : il_230.lookup 181 = some (.ireturn, 182) := by decide +kernel
theorem bo_230_182_fa9895 : ∀ e ∈ ([(182, .aload_n 1, 183), (183, .aload_n 0, 184), (184, .iload_n 3, 185), (185, .iconst 1, 186), (186, .iadd, 187)] : List (Nat × Instr × Nat)), il_230.lookup e.1 = some e.2 := by decide +kernel
theorem li_230_187 : il_230.lookup 187 = some (.iaload, 188) := by decide +kernel
theorem bo_230_188_0ffce8 : ∀ e ∈ ([(188, .aload_n 0, 189), (189, .iload_n 3, 190), (190, .iconst 2, 191), (191, .iadd, 192)] : List (Nat × Instr × Nat)), il_230.lookup e.1 = some e.2 := by decide +kernel
theorem li_230_192 : il_230.lookup 192 = some (.iaload, 193) := by decide +kernel
theorem bo_230_193_4862d2 : ∀ e ∈ ([(193, .aload_n 0, 194), (194, .iload_n 3, 195), (195, .iconst 3, 196), (196, .iadd, 197)] : List (Nat × Instr × Nat)), il_230.lookup e.1 = some e.2 := by decide +kernel
theorem li_230_197 : il_230.lookup 197 = some (.iaload, 198) := by decide +kernel
theorem bo_230_198_f47352 : ∀ e ∈ ([(198, .aload_n 0, 199), (199, .iload_n 3, 200), (200, .iconst 4, 201), (201, .iadd, 202)] : List (Nat × Instr × Nat)), il_230.lookup e.1 = some e.2 := by decide +kernel
theorem li_230_202 : il_230.lookup 202 = some (.iaload, 203) := by decide +kernel
theorem li_230_203 : il_230.lookup 203 = some (.invokevirtual 23, 206) := by decide +kernel
theorem bo_230_206_dc5120 : ∀ e ∈ ([(206, .aload_n 2, 207), (207, .aload_n 0, 208), (208, .iload_n 3, 209), (209, .iconst 1, 210), (210, .iadd, 211)] : List (Nat × Instr × Nat)), il_230.lookup e.1 = some e.2 := by decide +kernel
theorem li_230_211 : il_230.lookup 211 = some (.iaload, 212) := by decide +kernel
theorem bo_230_212_6718ed : ∀ e ∈ ([(212, .aload_n 0, 213), (213, .iload_n 3, 214), (214, .iconst 2, 215), (215, .iadd, 216)] : List (Nat × Instr × Nat)), il_230.lookup e.1 = some e.2 := by decide +kernel
theorem li_230_216 : il_230.lookup 216 = some (.iaload, 217) := by decide +kernel
theorem bo_230_217_4552b3 : ∀ e ∈ ([(217, .aload_n 0, 218), (218, .iload_n 3, 219), (219, .iconst 3, 220), (220, .iadd, 221)] : List (Nat × Instr × Nat)), il_230.lookup e.1 = some e.2 := by decide +kernel
theorem li_230_221 : il_230.lookup 221 = some (.iaload, 222) := by decide +kernel
theorem bo_230_222_3fa296 : ∀ e ∈ ([(222, .aload_n 0, 223), (223, .iload_n 3, 224), (224, .iconst 4, 225), (225, .iadd, 226)] : List (Nat × Instr × Nat)), il_230.lookup e.1 = some e.2 := by decide +kernel
theorem li_230_226 : il_230.lookup 226 = some (.iaload, 227) := by decide +kernel
theorem li_230_227 : il_230.lookup 227 = some (.invokevirtual 27, 230) := by decide +kernel
theorem li_230_230 : il_230.lookup 230 = some (.if_icmp .eq 542, 233) := by decide +kernel
theorem bo_230_233_6531a0 : ∀ e ∈ ([(233, .iconst 0, 234)] : List (Nat × Instr × Nat)), il_230.lookup e.1 = some e.2 := by decide +kernel
theorem li_230_234 : il_230.lookup 234 = some (.ireturn, 235) := by decide +kernel
theorem bo_230_235_66fbb1 : ∀ e ∈ ([(235, .aload_n 1, 236), (236, .aload_n 0, 237), (237, .iload_n 3, 238), (238, .iconst 1, 239), (239, .iadd, 240)] : List (Nat × Instr × Nat)), il_230.lookup e.1 = some e.2 := by decide +kernel
theorem li_230_240 : il_230.lookup 240 = some (.iaload, 241) := by decide +kernel
theorem bo_230_241_a77981 : ∀ e ∈ ([(241, .aload_n 0, 242), (242, .iload_n 3, 243), (243, .iconst 2, 244), (244, .iadd, 245)] : List (Nat × Instr × Nat)), il_230.lookup e.1 = some e.2 := by decide +kernel
theorem li_230_245 : il_230.lookup 245 = some (.iaload, 246) := by decide +kernel
theorem li_230_246 : il_230.lookup 246 = some (.invokevirtual 28, 249) := by decide +kernel
theorem bo_230_249_2ff7c3 : ∀ e ∈ ([(249, .aload_n 2, 250), (250, .aload_n 0, 251), (251, .iload_n 3, 252), (252, .iconst 1, 253), (253, .iadd, 254)] : List (Nat × Instr × Nat)), il_230.lookup e.1 = some e.2 := by decide +kernel
theorem li_230_254 : il_230.lookup 254 = some (.iaload, 255) := by decide +kernel
theorem bo_230_255_57825d : ∀ e ∈ ([(255, .aload_n 0, 256), (256, .iload_n 3, 257), (257, .iconst 2, 258), (258, .iadd, 259)] : List (Nat × Instr × Nat)), il_230.lookup e.1 = some e.2 := by decide +kernel
theorem li_230_259 : il_230.lookup 259 = some (.iaload, 260) := by decide +kernel
theorem li_230_260 : il_230.lookup 260 = some (.invokevirtual 31, 263) := by decide +kernel
theorem li_230_263 : il_230.lookup 263 = some (.if_icmp .eq 509, 266) := by decide +kernel
theorem bo_230_266_437b86 : ∀ e ∈ ([(266, .iconst 0, 267)] : List (Nat × Instr × Nat)), il_230.lookup e.1 = some e.2 := by decide +kernel
theorem li_230_267 : il_230.lookup 267 = some (.ireturn, 268) := by decide +kernel
theorem bo_230_268_3ab40a : ∀ e ∈ ([(268, .aload_n 1, 269), (269, .aload_n 0, 270), (270, .iload_n 3, 271), (271, .iconst 1, 272), (272, .iadd, 273)] : List (Nat × Instr × Nat)), il_230.lookup e.1 = some e.2 := by decide +kernel
theorem li_230_273 : il_230.lookup 273 = some (.iaload, 274) := by decide +kernel
theorem li_230_274 : il_230.lookup 274 = some (.invokevirtual 32, 277) := by decide +kernel
theorem bo_230_277_e6bf6a : ∀ e ∈ ([(277, .aload_n 2, 278), (278, .aload_n 0, 279), (279, .iload_n 3, 280), (280, .iconst 1, 281), (281, .iadd, 282)] : List (Nat × Instr × Nat)), il_230.lookup e.1 = some e.2 := by decide +kernel
theorem li_230_282 : il_230.lookup 282 = some (.iaload, 283) := by decide +kernel
theorem li_230_283 : il_230.lookup 283 = some (.invokevirtual 36, 286) := by decide +kernel
theorem li_230_286 : il_230.lookup 286 = some (.if_icmp .eq 486, 289) := by decide +kernel
theorem bo_230_289_7fbe25 : ∀ e ∈ ([(289, .iconst 0, 290)] : List (Nat × Instr × Nat)), il_230.lookup e.1 = some e.2 := by decide +kernel
theorem li_230_290 : il_230.lookup 290 = some (.ireturn, 291) := by decide +kernel
theorem bo_230_291_1967b1 : ∀ e ∈ ([(291, .aload_n 1, 292)] : List (Nat × Instr × Nat)), il_230.lookup e.1 = some e.2 := by decide +kernel
theorem li_230_292 : il_230.lookup 292 = some (.invokevirtual 37, 295) := by decide +kernel
theorem bo_230_295_4a8575 : ∀ e ∈ ([(295, .aload_n 2, 296)] : List (Nat × Instr × Nat)), il_230.lookup e.1 = some e.2 := by decide +kernel
theorem li_230_296 : il_230.lookup 296 = some (.invokevirtual 40, 299) := by decide +kernel
theorem li_230_299 : il_230.lookup 299 = some (.if_icmp .eq 473, 302) := by decide +kernel
theorem bo_230_302_cedb92 : ∀ e ∈ ([(302, .iconst 0, 303)] : List (Nat × Instr × Nat)), il_230.lookup e.1 = some e.2 := by decide +kernel
theorem li_230_303 : il_230.lookup 303 = some (.ireturn, 304) := by decide +kernel
theorem bo_230_304_0eca86 : ∀ e ∈ ([(304, .aload_n 1, 305)] : List (Nat × Instr × Nat)), il_230.lookup e.1 = some e.2 := by decide +kernel
theorem li_230_305 : il_230.lookup 305 = some (.invokevirtual 41, 308) := by decide +kernel
theorem bo_230_308_1ab829 : ∀ e ∈ ([(308, .aload_n 2, 309)] : List (Nat × Instr × Nat)), il_230.lookup e.1 = some e.2 := by decide +kernel
theorem li_230_309 : il_230.lookup 309 = some (.invokevirtual 44, 312) := by decide +kernel
theorem li_230_312 : il_230.lookup 312 = some (.if_icmp .eq 460, 315) := by decide +kernel
theorem bo_230_315_090f0b : ∀ e ∈ ([(315, .iconst 0, 316)] : List (Nat × Instr × Nat)), il_230.lookup e.1 = some e.2 := by decide +kernel
theorem li_230_316 : il_230.lookup 316 = some (.ireturn, 317) := by decide +kernel
theorem bo_230_317_990529 : ∀ e ∈ ([(317, .aload_n 1, 318)] : List (Nat × Instr × Nat)), il_230.lookup e.1 = some e.2 := by decide +kernel
theorem li_230_318 : il_230.lookup 318 = some (.invokevirtual 45, 321) := by decide +kernel
theorem bo_230_321_ab7819 : ∀ e ∈ ([(321, .aload_n 2, 322)] : List (Nat × Instr × Nat)), il_230.lookup e.1 = some e.2 := by decide +kernel
theorem li_230_322 : il_230.lookup 322 = some (.invokevirtual 48, 325) := by decide +kernel
theorem li_230_325 : il_230.lookup 325 = some (.if_icmp .eq 447, 328) := by decide +kernel
theorem bo_230_328_bb4d96 : ∀ e ∈ ([(328, .iconst 0, 329)] : List (Nat × Instr × Nat)), il_230.lookup e.1 = some e.2 := by decide +kernel
theorem li_230_329 : il_230.lookup 329 = some (.ireturn, 330) := by decide +kernel
theorem bo_230_330_1ec19d : ∀ e ∈ ([(330, .aload_n 1, 331), (331, .aload_n 0, 332), (332, .iload_n 3, 333), (333, .iconst 1, 334), (334, .iadd, 335)] : List (Nat × Instr × Nat)), il_230.lookup e.1 = some e.2 := by decide +kernel
theorem li_230_335 : il_230.lookup 335 = some (.iaload, 336) := by decide +kernel
theorem bo_230_336_cfeb15 : ∀ e ∈ ([(336, .aload_n 0, 337), (337, .iload_n 3, 338), (338, .iconst 2, 339), (339, .iadd, 340)] : List (Nat × Instr × Nat)), il_230.lookup e.1 = some e.2 := by decide +kernel
theorem li_230_340 : il_230.lookup 340 = some (.iaload, 341) := by decide +kernel
theorem li_230_341 : il_230.lookup 341 = some (.invokevirtual 49, 344) := by decide +kernel
theorem bo_230_344_b296b8 : ∀ e ∈ ([(344, .aload_n 2, 345), (345, .aload_n 0, 346), (346, .iload_n 3, 347), (347, .iconst 1, 348), (348, .iadd, 349)] : List (Nat × Instr × Nat)), il_230.lookup e.1 = some e.2 := by decide +kernel
theorem li_230_349 : il_230.lookup 349 = some (.iaload, 350) := by decide +kernel
theorem bo_230_350_03b6a2 : ∀ e ∈ ([(350, .aload_n 0, 351), (351, .iload_n 3, 352), (352, .iconst 2, 353), (353, .iadd, 354)] : List (Nat × Instr × Nat)), il_230.lookup e.1 = some e.2 := by decide +kernel
theorem li_230_354 : il_230.lookup 354 = some (.iaload, 355) := by decide +kernel
theorem li_230_355 : il_230.lookup 355 = some (.invokevirtual 52, 358) := by decide +kernel
theorem li_230_358 : il_230.lookup 358 = some (.if_icmp .eq 414, 361) := by decide +kernel
theorem bo_230_361_f0d6a1 : ∀ e ∈ ([(361, .iconst 0, 362)] : List (Nat × Instr × Nat)), il_230.lookup e.1 = some e.2 := by decide +kernel
theorem li_230_362 : il_230.lookup 362 = some (.ireturn, 363) := by decide +kernel
theorem bo_230_363_dfda6c : ∀ e ∈ ([(363, .aload_n 1, 364), (364, .aload_n 0, 365), (365, .iload_n 3, 366), (366, .iconst 1, 367), (367, .iadd, 368)] : List (Nat × Instr × Nat)), il_230.lookup e.1 = some e.2 := by decide +kernel
theorem li_230_368 : il_230.lookup 368 = some (.iaload, 369) := by decide +kernel
theorem li_230_369 : il_230.lookup 369 = some (.invokevirtual 53, 372) := by decide +kernel
theorem bo_230_372_2610c7 : ∀ e ∈ ([(372, .aload_n 2, 373), (373, .aload_n 0, 374), (374, .iload_n 3, 375), (375, .iconst 1, 376), (376, .iadd, 377)] : List (Nat × Instr × Nat)), il_230.lookup e.1 = some e.2 := by decide +kernel
theorem li_230_377 : il_230.lookup 377 = some (.iaload, 378) := by decide +kernel
theorem li_230_378 : il_230.lookup 378 = some (.invokevirtual 56, 381) := by decide +kernel
theorem li_230_381 : il_230.lookup 381 = some (.if_icmp .eq 391, 384) := by decide +kernel
theorem bo_230_384_b3cd6f : ∀ e ∈ ([(384, .iconst 0, 385)] : List (Nat × Instr × Nat)), il_230.lookup e.1 = some e.2 := by decide +kernel
theorem li_230_385 : il_230.lookup 385 = some (.ireturn, 386) := by decide +kernel
theorem bo_230_386_db5634 : ∀ e ∈ ([(386, .aload_n 1, 387), (387, .aload_n 0, 388), (388, .iload_n 3, 389), (389, .iconst 1, 390), (390, .iadd, 391)] : List (Nat × Instr × Nat)), il_230.lookup e.1 = some e.2 := by decide +kernel
theorem li_230_391 : il_230.lookup 391 = some (.iaload, 392) := by decide +kernel
theorem bo_230_392_ab5f74 : ∀ e ∈ ([(392, .aload_n 0, 393), (393, .iload_n 3, 394), (394, .iconst 2, 395), (395, .iadd, 396)] : List (Nat × Instr × Nat)), il_230.lookup e.1 = some e.2 := by decide +kernel
theorem li_230_396 : il_230.lookup 396 = some (.iaload, 397) := by decide +kernel
theorem li_230_397 : il_230.lookup 397 = some (.invokevirtual 57, 400) := by decide +kernel
theorem bo_230_400_9954c4 : ∀ e ∈ ([(400, .aload_n 2, 401), (401, .aload_n 0, 402), (402, .iload_n 3, 403), (403, .iconst 1, 404), (404, .iadd, 405)] : List (Nat × Instr × Nat)), il_230.lookup e.1 = some e.2 := by decide +kernel
theorem li_230_405 : il_230.lookup 405 = some (.iaload, 406) := by decide +kernel
theorem bo_230_406_23cb1f : ∀ e ∈ ([(406, .aload_n 0, 407), (407, .iload_n 3, 408), (408, .iconst 2, 409), (409, .iadd, 410)] : List (Nat × Instr × Nat)), il_230.lookup e.1 = some e.2 := by decide +kernel
theorem li_230_410 : il_230.lookup 410 = some (.iaload, 411) := by decide +kernel
theorem li_230_411 : il_230.lookup 411 = some (.invokevirtual 60, 414) := by decide +kernel
theorem li_230_414 : il_230.lookup 414 = some (.if_icmp .eq 358, 417) := by decide +kernel
theorem bo_230_417_c0f3b3 : ∀ e ∈ ([(417, .iconst 0, 418)] : List (Nat × Instr × Nat)), il_230.lookup e.1 = some e.2 := by decide +kernel
theorem li_230_418 : il_230.lookup 418 = some (.ireturn, 419) := by decide +kernel
theorem bo_230_419_767bf5 : ∀ e ∈ ([(419, .aload_n 1, 420), (420, .aload_n 0, 421), (421, .iload_n 3, 422), (422, .iconst 1, 423), (423, .iadd, 424)] : List (Nat × Instr × Nat)), il_230.lookup e.1 = some e.2 := by decide +kernel
theorem li_230_424 : il_230.lookup 424 = some (.iaload, 425) := by decide +kernel
theorem bo_230_425_1ed74e : ∀ e ∈ ([(425, .aload_n 0, 426), (426, .iload_n 3, 427), (427, .iconst 2, 428), (428, .iadd, 429)] : List (Nat × Instr × Nat)), il_230.lookup e.1 = some e.2 := by decide +kernel
theorem li_230_429 : il_230.lookup 429 = some (.iaload, 430) := by decide +kernel
theorem bo_230_430_3a9428 : ∀ e ∈ ([(430, .aload_n 0, 431), (431, .iload_n 3, 432), (432, .iconst 3, 433), (433, .iadd, 434)] : List (Nat × Instr × Nat)), il_230.lookup e.1 = some e.2 := by decide +kernel
theorem li_230_434 : il_230.lookup 434 = some (.iaload, 435) := by decide +kernel
theorem li_230_435 : il_230.lookup 435 = some (.invokevirtual 61, 438) := by decide +kernel
theorem bo_230_438_e56da2 : ∀ e ∈ ([(438, .aload_n 2, 439), (439, .aload_n 0, 440), (440, .iload_n 3, 441), (441, .iconst 1, 442), (442, .iadd, 443)] : List (Nat × Instr × Nat)), il_230.lookup e.1 = some e.2 := by decide +kernel
theorem li_230_443 : il_230.lookup 443 = some (.iaload, 444) := by decide +kernel
theorem bo_230_444_7f88b7 : ∀ e ∈ ([(444, .aload_n 0, 445), (445, .iload_n 3, 446), (446, .iconst 2, 447), (447, .iadd, 448)] : List (Nat × Instr × Nat)), il_230.lookup e.1 = some e.2 := by decide +kernel
theorem li_230_448 : il_230.lookup 448 = some (.iaload, 449) := by decide +kernel
theorem bo_230_449_5a6ac3 : ∀ e ∈ ([(449, .aload_n 0, 450), (450, .iload_n 3, 451), (451, .iconst 3, 452), (452, .iadd, 453)] : List (Nat × Instr × Nat)), il_230.lookup e.1 = some e.2 := by decide +kernel
theorem li_230_453 : il_230.lookup 453 = some (.iaload, 454) := by decide +kernel
theorem li_230_454 : il_230.lookup 454 = some (.invokevirtual 65, 457) := by decide +kernel
theorem li_230_457 : il_230.lookup 457 = some (.if_icmp .eq 315, 460) := by decide +kernel
theorem bo_230_460_12b7d3 : ∀ e ∈ ([(460, .iconst 0, 461)] : List (Nat × Instr × Nat)), il_230.lookup e.1 = some e.2 := by decide +kernel
theorem li_230_461 : il_230.lookup 461 = some (.ireturn, 462) := by decide +kernel
theorem bo_230_462_c8c6fd : ∀ e ∈ ([(462, .aload_n 1, 463), (463, .aload_n 0, 464), (464, .iload_n 3, 465), (465, .iconst 1, 466), (466, .iadd, 467)] : List (Nat × Instr × Nat)), il_230.lookup e.1 = some e.2 := by decide +kernel
theorem li_230_467 : il_230.lookup 467 = some (.iaload, 468) := by decide +kernel
theorem bo_230_468_4700ce : ∀ e ∈ ([(468, .aload_n 0, 469), (469, .iload_n 3, 470), (470, .iconst 2, 471), (471, .iadd, 472)] : List (Nat × Instr × Nat)), il_230.lookup e.1 = some e.2 := by decide +kernel
theorem li_230_472 : il_230.lookup 472 = some (.iaload, 473) := by decide +kernel
theorem bo_230_473_384077 : ∀ e ∈ ([(473, .aload_n 0, 474), (474, .iload_n 3, 475), (475, .iconst 3, 476), (476, .iadd, 477)] : List (Nat × Instr × Nat)), il_230.lookup e.1 = some e.2 := by decide +kernel
theorem li_230_477 : il_230.lookup 477 = some (.iaload, 478) := by decide +kernel
theorem bo_230_478_2f27e5 : ∀ e ∈ ([(478, .aload_n 0, 479), (479, .iload_n 3, 480), (480, .iconst 4, 481), (481, .iadd, 482)] : List (Nat × Instr × Nat)), il_230.lookup e.1 = some e.2 := by decide +kernel
theorem li_230_482 : il_230.lookup 482 = some (.iaload, 483) := by decide +kernel
theorem li_230_483 : il_230.lookup 483 = some (.invokevirtual 66, 486) := by decide +kernel
theorem bo_230_486_a9adfe : ∀ e ∈ ([(486, .aload_n 2, 487), (487, .aload_n 0, 488), (488, .iload_n 3, 489), (489, .iconst 1, 490), (490, .iadd, 491)] : List (Nat × Instr × Nat)), il_230.lookup e.1 = some e.2 := by decide +kernel
theorem li_230_491 : il_230.lookup 491 = some (.iaload, 492) := by decide +kernel
theorem bo_230_492_5ada95 : ∀ e ∈ ([(492, .aload_n 0, 493), (493, .iload_n 3, 494), (494, .iconst 2, 495), (495, .iadd, 496)] : List (Nat × Instr × Nat)), il_230.lookup e.1 = some e.2 := by decide +kernel
theorem li_230_496 : il_230.lookup 496 = some (.iaload, 497) := by decide +kernel
theorem bo_230_497_ad5daa : ∀ e ∈ ([(497, .aload_n 0, 498), (498, .iload_n 3, 499), (499, .iconst 3, 500), (500, .iadd, 501)] : List (Nat × Instr × Nat)), il_230.lookup e.1 = some e.2 := by decide +kernel
theorem li_230_501 : il_230.lookup 501 = some (.iaload, 502) := by decide +kernel
theorem bo_230_502_3d9013 : ∀ e ∈ ([(502, .aload_n 0, 503), (503, .iload_n 3, 504), (504, .iconst 4, 505), (505, .iadd, 506)] : List (Nat × Instr × Nat)), il_230.lookup e.1 = some e.2 := by decide +kernel
theorem li_230_506 : il_230.lookup 506 = some (.iaload, 507) := by decide +kernel
theorem li_230_507 : il_230.lookup 507 = some (.invokevirtual 69, 510) := by decide +kernel
theorem li_230_510 : il_230.lookup 510 = some (.if_icmp .eq 262, 513) := by decide +kernel
theorem bo_230_513_47cbd1 : ∀ e ∈ ([(513, .iconst 0, 514)] : List (Nat × Instr × Nat)), il_230.lookup e.1 = some e.2 := by decide +kernel
theorem li_230_514 : il_230.lookup 514 = some (.ireturn, 515) := by decide +kernel
theorem bo_230_515_a69e79 : ∀ e ∈ ([(515, .aload_n 1, 516), (516, .aload_n 0, 517), (517, .iload_n 3, 518), (518, .iconst 1, 519), (519, .iadd, 520)] : List (Nat × Instr × Nat)), il_230.lookup e.1 = some e.2 := by decide +kernel
theorem li_230_520 : il_230.lookup 520 = some (.iaload, 521) := by decide +kernel
theorem bo_230_521_b6d667 : ∀ e ∈ ([(521, .aload_n 0, 522), (522, .iload_n 3, 523), (523, .iconst 2, 524), (524, .iadd, 525)] : List (Nat × Instr × Nat)), il_230.lookup e.1 = some e.2 := by decide +kernel
theorem li_230_525 : il_230.lookup 525 = some (.iaload, 526) := by decide +kernel
theorem bo_230_526_c00263 : ∀ e ∈ ([(526, .aload_n 0, 527), (527, .iload_n 3, 528), (528, .iconst 3, 529), (529, .iadd, 530)] : List (Nat × Instr × Nat)), il_230.lookup e.1 = some e.2 := by decide +kernel
theorem li_230_530 : il_230.lookup 530 = some (.iaload, 531) := by decide +kernel
theorem li_230_531 : il_230.lookup 531 = some (.invokevirtual 70, 534) := by decide +kernel
theorem bo_230_534_e9b8cc : ∀ e ∈ ([(534, .aload_n 2, 535), (535, .aload_n 0, 536), (536, .iload_n 3, 537), (537, .iconst 1, 538), (538, .iadd, 539)] : List (Nat × Instr × Nat)), il_230.lookup e.1 = some e.2 := by decide +kernel
theorem li_230_539 : il_230.lookup 539 = some (.iaload, 540) := by decide +kernel
theorem bo_230_540_fd3d1e : ∀ e ∈ ([(540, .aload_n 0, 541), (541, .iload_n 3, 542), (542, .iconst 2, 543), (543, .iadd, 544)] : List (Nat × Instr × Nat)), il_230.lookup e.1 = some e.2 := by decide +kernel
theorem li_230_544 : il_230.lookup 544 = some (.iaload, 545) := by decide +kernel
theorem bo_230_545_59a8cf : ∀ e ∈ ([(545, .aload_n 0, 546), (546, .iload_n 3, 547), (547, .iconst 3, 548), (548, .iadd, 549)] : List (Nat × Instr × Nat)), il_230.lookup e.1 = some e.2 := by decide +kernel
theorem li_230_549 : il_230.lookup 549 = some (.iaload, 550) := by decide +kernel
theorem li_230_550 : il_230.lookup 550 = some (.invokevirtual 73, 553) := by decide +kernel
theorem li_230_553 : il_230.lookup 553 = some (.if_icmp .eq 219, 556) := by decide +kernel
theorem bo_230_556_f647ed : ∀ e ∈ ([(556, .iconst 0, 557)] : List (Nat × Instr × Nat)), il_230.lookup e.1 = some e.2 := by decide +kernel
theorem li_230_557 : il_230.lookup 557 = some (.ireturn, 558) := by decide +kernel
theorem bo_230_558_fc56df : ∀ e ∈ ([(558, .aload_n 1, 559), (559, .aload_n 0, 560), (560, .iload_n 3, 561), (561, .iconst 1, 562), (562, .iadd, 563)] : List (Nat × Instr × Nat)), il_230.lookup e.1 = some e.2 := by decide +kernel
theorem li_230_563 : il_230.lookup 563 = some (.iaload, 564) := by decide +kernel
theorem bo_230_564_39727e : ∀ e ∈ ([(564, .aload_n 0, 565), (565, .iload_n 3, 566), (566, .iconst 2, 567), (567, .iadd, 568)] : List (Nat × Instr × Nat)), il_230.lookup e.1 = some e.2 := by decide +kernel
theorem li_230_568 : il_230.lookup 568 = some (.iaload, 569) := by decide +kernel
theorem bo_230_569_7dc6f5 : ∀ e ∈ ([(569, .aload_n 0, 570), (570, .iload_n 3, 571), (571, .iconst 3, 572), (572, .iadd, 573)] : List (Nat × Instr × Nat)), il_230.lookup e.1 = some e.2 := by decide +kernel
theorem li_230_573 : il_230.lookup 573 = some (.iaload, 574) := by decide +kernel
theorem li_230_574 : il_230.lookup 574 = some (.invokevirtual 74, 577) := by decide +kernel
theorem bo_230_577_83b748 : ∀ e ∈ ([(577, .aload_n 2, 578), (578, .aload_n 0, 579), (579, .iload_n 3, 580), (580, .iconst 1, 581), (581, .iadd, 582)] : List (Nat × Instr × Nat)), il_230.lookup e.1 = some e.2 := by decide +kernel
theorem li_230_582 : il_230.lookup 582 = some (.iaload, 583) := by decide +kernel
theorem bo_230_583_2ad11e : ∀ e ∈ ([(583, .aload_n 0, 584), (584, .iload_n 3, 585), (585, .iconst 2, 586), (586, .iadd, 587)] : List (Nat × Instr × Nat)), il_230.lookup e.1 = some e.2 := by decide +kernel
theorem li_230_587 : il_230.lookup 587 = some (.iaload, 588) := by decide +kernel
theorem bo_230_588_0414dc : ∀ e ∈ ([(588, .aload_n 0, 589), (589, .iload_n 3, 590), (590, .iconst 3, 591), (591, .iadd, 592)] : List (Nat × Instr × Nat)), il_230.lookup e.1 = some e.2 := by decide +kernel
theorem li_230_592 : il_230.lookup 592 = some (.iaload, 593) := by decide +kernel
theorem li_230_593 : il_230.lookup 593 = some (.invokevirtual 77, 596) := by decide +kernel
theorem li_230_596 : il_230.lookup 596 = some (.if_icmp .eq 176, 599) := by decide +kernel
theorem bo_230_599_4db641 : ∀ e ∈ ([(599, .iconst 0, 600)] : List (Nat × Instr × Nat)), il_230.lookup e.1 = some e.2 := by decide +kernel
theorem li_230_600 : il_230.lookup 600 = some (.ireturn, 601) := by decide +kernel
theorem bo_230_601_e662dc : ∀ e ∈ ([(601, .aload_n 1, 602), (602, .aload_n 0, 603), (603, .iload_n 3, 604), (604, .iconst 1, 605), (605, .iadd, 606)] : List (Nat × Instr × Nat)), il_230.lookup e.1 = some e.2 := by decide +kernel
theorem li_230_606 : il_230.lookup 606 = some (.iaload, 607) := by decide +kernel
theorem li_230_607 : il_230.lookup 607 = some (.invokevirtual 78, 610) := by decide +kernel
theorem bo_230_610_d2e5b8 : ∀ e ∈ ([(610, .aload_n 2, 611), (611, .aload_n 0, 612), (612, .iload_n 3, 613), (613, .iconst 1, 614), (614, .iadd, 615)] : List (Nat × Instr × Nat)), il_230.lookup e.1 = some e.2 := by decide +kernel
theorem li_230_615 : il_230.lookup 615 = some (.iaload, 616) := by decide +kernel
theorem li_230_616 : il_230.lookup 616 = some (.invokevirtual 81, 619) := by decide +kernel
theorem li_230_619 : il_230.lookup 619 = some (.if_icmp .eq 153, 622) := by decide +kernel
theorem bo_230_622_639d82 : ∀ e ∈ ([(622, .iconst 0, 623)] : List (Nat × Instr × Nat)), il_230.lookup e.1 = some e.2 := by decide +kernel
theorem li_230_623 : il_230.lookup 623 = some (.ireturn, 624) := by decide +kernel
theorem bo_230_624_90456d : ∀ e ∈ ([(624, .aload_n 1, 625), (625, .aload_n 0, 626), (626, .iload_n 3, 627), (627, .iconst 1, 628), (628, .iadd, 629)] : List (Nat × Instr × Nat)), il_230.lookup e.1 = some e.2 := by decide +kernel
theorem li_230_629 : il_230.lookup 629 = some (.iaload, 630) := by decide +kernel
theorem bo_230_630_aeb36d : ∀ e ∈ ([(630, .aload_n 0, 631), (631, .iload_n 3, 632), (632, .iconst 2, 633), (633, .iadd, 634)] : List (Nat × Instr × Nat)), il_230.lookup e.1 = some e.2 := by decide +kernel
theorem li_230_634 : il_230.lookup 634 = some (.iaload, 635) := by decide +kernel
theorem li_230_635 : il_230.lookup 635 = some (.invokevirtual 82, 638) := by decide +kernel
theorem bo_230_638_bcc8a4 : ∀ e ∈ ([(638, .aload_n 2, 639), (639, .aload_n 0, 640), (640, .iload_n 3, 641), (641, .iconst 1, 642), (642, .iadd, 643)] : List (Nat × Instr × Nat)), il_230.lookup e.1 = some e.2 := by decide +kernel
theorem li_230_643 : il_230.lookup 643 = some (.iaload, 644) := by decide +kernel
theorem bo_230_644_1a68a2 : ∀ e ∈ ([(644, .aload_n 0, 645), (645, .iload_n 3, 646), (646, .iconst 2, 647), (647, .iadd, 648)] : List (Nat × Instr × Nat)), il_230.lookup e.1 = some e.2 := by decide +kernel
theorem li_230_648 : il_230.lookup 648 = some (.iaload, 649) := by decide +kernel
theorem li_230_649 : il_230.lookup 649 = some (.invokevirtual 85, 652) := by decide +kernel
theorem li_230_652 : il_230.lookup 652 = some (.if_icmp .eq 120, 655) := by decide +kernel
theorem bo_230_655_042673 : ∀ e ∈ ([(655, .iconst 0, 656)] : List (Nat × Instr × Nat)), il_230.lookup e.1 = some e.2 := by decide +kernel
theorem li_230_656 : il_230.lookup 656 = some (.ireturn, 657) := by decide +kernel
theorem bo_230_657_dcc137 : ∀ e ∈ ([(657, .aload_n 1, 658), (658, .aload_n 0, 659), (659, .iload_n 3, 660), (660, .iconst 1, 661), (661, .iadd, 662)] : List (Nat × Instr × Nat)), il_230.lookup e.1 = some e.2 := by decide +kernel
theorem li_230_662 : il_230.lookup 662 = some (.iaload, 663) := by decide +kernel
theorem bo_230_663_cd9cd3 : ∀ e ∈ ([(663, .aload_n 0, 664), (664, .iload_n 3, 665), (665, .iconst 2, 666), (666, .iadd, 667)] : List (Nat × Instr × Nat)), il_230.lookup e.1 = some e.2 := by decide +kernel
theorem li_230_667 : il_230.lookup 667 = some (.iaload, 668) := by decide +kernel
theorem li_230_668 : il_230.lookup 668 = some (.invokevirtual 86, 671) := by decide +kernel
theorem bo_230_671_be98ad : ∀ e ∈ ([(671, .aload_n 2, 672), (672, .aload_n 0, 673), (673, .iload_n 3, 674), (674, .iconst 1, 675), (675, .iadd, 676)] : List (Nat × Instr × Nat)), il_230.lookup e.1 = some e.2 := by decide +kernel
theorem li_230_676 : il_230.lookup 676 = some (.iaload, 677) := by decide +kernel
theorem bo_230_677_4d8e0a : ∀ e ∈ ([(677, .aload_n 0, 678), (678, .iload_n 3, 679), (679, .iconst 2, 680), (680, .iadd, 681)] : List (Nat × Instr × Nat)), il_230.lookup e.1 = some e.2 := by decide +kernel
theorem li_230_681 : il_230.lookup 681 = some (.iaload, 682) := by decide +kernel
theorem li_230_682 : il_230.lookup 682 = some (.invokevirtual 89, 685) := by decide +kernel
theorem li_230_685 : il_230.lookup 685 = some (.if_icmp .eq 87, 688) := by decide +kernel
theorem bo_230_688_1b782b : ∀ e ∈ ([(688, .iconst 0, 689)] : List (Nat × Instr × Nat)), il_230.lookup e.1 = some e.2 := by decide +kernel
theorem li_230_689 : il_230.lookup 689 = some (.ireturn, 690) := by decide +kernel
theorem bo_230_690_40199d : ∀ e ∈ ([(690, .aload_n 1, 691), (691, .aload_n 0, 692), (692, .iload_n 3, 693), (693, .iconst 1, 694), (694, .iadd, 695)] : List (Nat × Instr × Nat)), il_230.lookup e.1 = some e.2 := by decide +kernel
theorem li_230_695 : il_230.lookup 695 = some (.iaload, 696) := by decide +kernel
theorem bo_230_696_c3f0d3 : ∀ e ∈ ([(696, .aload_n 0, 697), (697, .iload_n 3, 698), (698, .iconst 2, 699), (699, .iadd, 700)] : List (Nat × Instr × Nat)), il_230.lookup e.1 = some e.2 := by decide +kernel
theorem li_230_700 : il_230.lookup 700 = some (.iaload, 701) := by decide +kernel
theorem li_230_701 : il_230.lookup 701 = some (.invokevirtual 90, 704) := by decide +kernel
theorem bo_230_704_ddbb9e : ∀ e ∈ ([(704, .aload_n 2, 705), (705, .aload_n 0, 706), (706, .iload_n 3, 707), (707, .iconst 1, 708), (708, .iadd, 709)] : List (Nat × Instr × Nat)), il_230.lookup e.1 = some e.2 := by decide +kernel
theorem li_230_709 : il_230.lookup 709 = some (.iaload, 710) := by decide +kernel
theorem bo_230_710_cbf59e : ∀ e ∈ ([(710, .aload_n 0, 711), (711, .iload_n 3, 712), (712, .iconst 2, 713), (713, .iadd, 714)] : List (Nat × Instr × Nat)), il_230.lookup e.1 = some e.2 := by decide +kernel
theorem li_230_714 : il_230.lookup 714 = some (.iaload, 715) := by decide +kernel
theorem li_230_715 : il_230.lookup 715 = some (.invokevirtual 93, 718) := by decide +kernel
theorem li_230_718 : il_230.lookup 718 = some (.if_icmp .eq 54, 721) := by decide +kernel
theorem bo_230_721_b6e947 : ∀ e ∈ ([(721, .iconst 0, 722)] : List (Nat × Instr × Nat)), il_230.lookup e.1 = some e.2 := by decide +kernel
theorem li_230_722 : il_230.lookup 722 = some (.ireturn, 723) := by decide +kernel
theorem bo_230_723_ed131f : ∀ e ∈ ([(723, .aload_n 1, 724)] : List (Nat × Instr × Nat)), il_230.lookup e.1 = some e.2 := by decide +kernel
theorem li_230_724 : il_230.lookup 724 = some (.invokevirtual 94, 727) := by decide +kernel
theorem bo_230_727_1cd151 : ∀ e ∈ ([(727, .aload_n 2, 728)] : List (Nat × Instr × Nat)), il_230.lookup e.1 = some e.2 := by decide +kernel
theorem li_230_728 : il_230.lookup 728 = some (.invokevirtual 97, 731) := by decide +kernel
theorem li_230_731 : il_230.lookup 731 = some (.if_icmp .eq 41, 734) := by decide +kernel
theorem bo_230_734_7408ec : ∀ e ∈ ([(734, .iconst 0, 735)] : List (Nat × Instr × Nat)), il_230.lookup e.1 = some e.2 := by decide +kernel
theorem li_230_735 : il_230.lookup 735 = some (.ireturn, 736) := by decide +kernel
theorem bo_230_736_0314f3 : ∀ e ∈ ([(736, .aload_n 1, 737), (737, .aload_n 0, 738), (738, .iload_n 3, 739), (739, .iconst 1, 740), (740, .iadd, 741)] : List (Nat × Instr × Nat)), il_230.lookup e.1 = some e.2 := by decide +kernel
theorem li_230_741 : il_230.lookup 741 = some (.iaload, 742) := by decide +kernel
theorem li_230_742 : il_230.lookup 742 = some (.invokevirtual 98, 745) := by decide +kernel
theorem bo_230_745_4d9078 : ∀ e ∈ ([(745, .aload_n 2, 746), (746, .aload_n 0, 747), (747, .iload_n 3, 748), (748, .iconst 1, 749), (749, .iadd, 750)] : List (Nat × Instr × Nat)), il_230.lookup e.1 = some e.2 := by decide +kernel
theorem li_230_750 : il_230.lookup 750 = some (.iaload, 751) := by decide +kernel
theorem li_230_751 : il_230.lookup 751 = some (.invokevirtual 101, 754) := by decide +kernel
theorem li_230_754 : il_230.lookup 754 = some (.if_icmp .eq 18, 757) := by decide +kernel
theorem bo_230_757_09c6d3 : ∀ e ∈ ([(757, .iconst 0, 758)] : List (Nat × Instr × Nat)), il_230.lookup e.1 = some e.2 := by decide +kernel
theorem li_230_758 : il_230.lookup 758 = some (.ireturn, 759) := by decide +kernel
theorem bo_230_759_f614dd : ∀ e ∈ ([(759, .aload_n 1, 760)] : List (Nat × Instr × Nat)), il_230.lookup e.1 = some e.2 := by decide +kernel
theorem li_230_760 : il_230.lookup 760 = some (.invokevirtual 102, 763) := by decide +kernel
theorem bo_230_763_8676d6 : ∀ e ∈ ([(763, .aload_n 2, 764)] : List (Nat × Instr × Nat)), il_230.lookup e.1 = some e.2 := by decide +kernel
theorem li_230_764 : il_230.lookup 764 = some (.invokevirtual 105, 767) := by decide +kernel
theorem li_230_767 : il_230.lookup 767 = some (.if_icmp .eq 5, 770) := by decide +kernel
theorem bo_230_770_9d0f32 : ∀ e ∈ ([(770, .iconst 0, 771)] : List (Nat × Instr × Nat)), il_230.lookup e.1 = some e.2 := by decide +kernel
theorem li_230_771 : il_230.lookup 771 = some (.ireturn, 772) := by decide +kernel
theorem li_230_0 : il_230.lookup 0 = some (.new 7, 3) := by decide +kernel
theorem bo_230_3_f2577a : ∀ e ∈ ([(3, .dup, 4)] : List (Nat × Instr × Nat)), il_230.lookup e.1 = some e.2 := by decide +kernel
theorem li_230_4 : il_230.lookup 4 = some (.invokespecial 9, 7) := by decide +kernel
theorem bo_230_7_9b264f : ∀ e ∈ ([(7, .astore_n 1, 8)] : List (Nat × Instr × Nat)), il_230.lookup e.1 = some e.2 := by decide +kernel
theorem li_230_8 : il_230.lookup 8 = some (.new 10, 11) := by decide +kernel
theorem bo_230_11_081257 : ∀ e ∈ ([(11, .dup, 12)] : List (Nat × Instr × Nat)), il_230.lookup e.1 = some e.2 := by decide +kernel
theorem li_230_12 : il_230.lookup 12 = some (.invokespecial 12, 15) := by decide +kernel
theorem bo_230_15_f418fa : ∀ e ∈ ([(15, .astore_n 2, 16), (16, .iconst 0, 17), (17, .istore_n 3, 18)] : List (Nat × Instr × Nat)), il_230.lookup e.1 = some e.2 := by decide +kernel
theorem e_m_latency_87 {d : Nat} (hd : 1 ≤ d) (k69 : Nat → Int64 → Int32 → Int64 → Mem → Option (Int32 × Mem)) (hk69 : ∀ l0 l2 l4 l5 M r, k69 l0 l2 l4 l5 M = some r → EV d 200 69 [some (.ref l0), none, some (.long l2), none, some (.int l4), some (.long l5), none] [] M (some (.int r.1), r.2)) (l0 : Nat) (l2 : Int64) (l4 : Int32) (l5 : Int64) (M : Mem) (r : Int32 × Mem) (h : f_m_latency_87 k69 l0 l2 l4 l5 M = some r) : EV d 200 87 [some (.ref l0), none, some (.long l2), none, some (.int l4), some (.long l5), none] [] M (some (.int r.1), r.2) := by
  unfold f_m_latency_87 at h
  refine EV_stq mx_200 (pc' := 93) (L' := [some (.ref l0), none, some (.long l2), none, some (.int (l4 + (1 : Int32))), some (.long l5), none]) (st' := [.ref l0, .long l5]) bo_200_87_ebc240 rfl ?_
  refine r_gA mx_200 li_200_93 fd_14_148 rfl h (fun a1 h => ?_)
  refine EV_stq mx_200 (pc' := 98) (L' := [some (.ref l0), none, some (.long l2), none, some (.int (l4 + (1 : Int32))), some (.long l5), none]) (st' := [.int (l4 + (1 : Int32)), .ref a1, .long l5]) bo_200_96_2375ef rfl ?_
  refine r_aI mx_200 li_200_98 h (fun v2 h => ?_)
  refine EV_stq mx_200 (pc' := 69) (L' := [some (.ref l0), none, some (.long l2), none, some (.int (l4 + (1 : Int32))), some (.long (l5 + v2.toInt64)), none]) (st' := []) bo_200_99_8d51f4 rfl ?_
  exact hk69 l0 l2 (l4 + (1 : Int32)) (l5 + v2.toInt64) M r h
theorem e_m_latency_69 {d : Nat} (hd : 1 ≤ d) : ∀ (n : Nat) (l0 : Nat) (l2 : Int64) (l4 : Int32) (l5 : Int64) (M : Mem) (r : Int32 × Mem), f_m_latency_69 n l0 l2 l4 l5 M = some r → EV d 200 69 [some (.ref l0), none, some (.long l2), none, some (.int l4), some (.long l5), none] [] M (some (.int r.1), r.2) := by
  intro n
  induction n with
  | zero => intro l0 l2 l4 l5 M r h; cases h
  | succ n ih =>
    intro l0 l2 l4 l5 M r h
    unfold f_m_latency_69 at h
    refine EV_stq mx_200 (pc' := 73) (L' := [some (.ref l0), none, some (.long l2), none, some (.int l4), some (.long l5), none]) (st' := [.int (lg_cmp l5 (0 : Int64))]) bo_200_69_344ae9 rfl ?_
    refine h_eq h (fun h hc => ?_) (fun h hc => ?_)
    · refine r_ifT mx_200 li_200_73 (by decide) rfl hc ?_
      exact e_m_latency_87 hd _ ih l0 l2 l4 l5 M r h
    · refine r_ifF mx_200 li_200_73 (by decide) hc ?_
      refine EV_stq mx_200 (pc' := 84) (L' := [some (.ref l0), none, some (.long l2), none, some (.int l4), some (.long l5), none]) (st' := [.int (lg_cmp ((100 : Int64) * l5) l2)]) bo_200_76_0ac68a rfl ?_
      refine h_ge h (fun h hc => ?_) (fun h hc => ?_)
      · refine r_ifT mx_200 li_200_84 (by decide) rfl hc ?_
        refine EV_stq mx_200 (pc' := 108) (L' := [some (.ref l0), none, some (.long l2), none, some (.int l4), some (.long l5), none]) (st' := [.int l4]) bo_200_106_d939f7 rfl ?_
        obtain rfl := Option.some.inj h
        exact r_ret mx_200 li_200_108 rfl ro_int
      · refine r_ifF mx_200 li_200_84 (by decide) hc ?_
        exact e_m_latency_87 hd _ ih l0 l2 l4 l5 M r h
theorem e_m_latency {d : Nat} (hd : 1 ≤ d) (p0 : Nat) (p1 : Int32) (M : Mem) (r : Int32 × Mem) (h : f_m_latency p0 p1 M = some r) : EV d 200 0 (entL 7 [.ref p0, .int p1]) [] M (some (.int r.1), r.2) := by
  show EV d 200 0 [some (.ref p0), some (.int p1), none, none, none, none, none] [] M _
  unfold f_m_latency at h
  refine EV_stq mx_200 (pc' := 5) (L' := [some (.ref p0), some (.int p1), none, none, none, none, none]) (st' := [.int (100 : Int32), .int (-2 : Int32), .int p1]) bo_200_0_4db342 rfl ?_
  refine h_cI h (fun v2 M1 e h => ?_)
  refine EV_call [.int p1, .int (-2 : Int32), .int (100 : Int32)] [] mx_200 li_200_5 rfl rfl si_14_203 rfl (by decide) (by decide) (by omega) ma_29 rfl (Nat.le_of_ble_eq_true rfl) rfl rfl (Nat.le_of_ble_eq_true rfl) rfl (e_m_isIn (by omega) p1 (-2 : Int32) (100 : Int32) M _ e) ?_
  show EV d 200 8 [some (.ref p0), some (.int p1), none, none, none, none, none] [.int v2] M1 _
  refine h_ne h (fun h hc => ?_) (fun h hc => ?_)
  · refine r_ifF mx_200 li_200_8 (by decide) hc ?_
    refine EV_stq mx_200 (pc' := 13) (L' := [some (.ref p0), some (.int p1), none, none, none, none, none]) (st' := [.int (-1000000002 : Int32)]) bo_200_11_081257 rfl ?_
    obtain rfl := Option.some.inj h
    exact r_ret mx_200 li_200_13 rfl ro_int
  · refine r_ifT mx_200 li_200_8 (by decide) rfl hc ?_
    refine EV_stq mx_200 (pc' := 15) (L' := [some (.ref p0), some (.int p1), none, none, none, none, none]) (st' := [.ref p0]) bo_200_14_3e81ce rfl ?_
    refine r_gI mx_200 li_200_15 fd_14_246 ⟨by decide, by decide⟩ h (fun v3 h => ?_)
    refine h_ne h (fun h hc => ?_) (fun h hc => ?_)
    · refine r_ifF mx_200 li_200_18 (by decide) hc ?_
      refine EV_stq mx_200 (pc' := 24) (L' := [some (.ref p0), some (.int p1), none, none, none, none, none]) (st' := [.int (-1000000001 : Int32)]) bo_200_21_46c79c rfl ?_
      obtain rfl := Option.some.inj h
      exact r_ret mx_200 li_200_24 rfl ro_int
    · refine r_ifT mx_200 li_200_18 (by decide) rfl hc ?_
      refine EV_stq mx_200 (pc' := 26) (L' := [some (.ref p0), some (.int p1), none, none, none, none, none]) (st' := [.int p1]) bo_200_25_1858f6 rfl ?_
      refine h_ge h (fun h hc => ?_) (fun h hc => ?_)
      · refine r_ifT mx_200 li_200_26 (by decide) rfl hc ?_
        refine EV_stq mx_200 (pc' := 51) (L' := [some (.ref p0), some (.int p1), none, none, none, none, none]) (st' := [.ref p0, .long p1.toInt64]) bo_200_48_f3f7cd rfl ?_
        refine r_gI mx_200 li_200_51 fd_14_246 ⟨by decide, by decide⟩ h (fun v4 h => ?_)
        refine EV_stq mx_200 (pc' := 61) (L' := [some (.ref p0), some (.int p1), some (.long (p1.toInt64 * v4.toInt64)), none, some (.int (0 : Int32)), none, none]) (st' := [.ref p0]) bo_200_54_001ca7 rfl ?_
        refine r_gA mx_200 li_200_61 fd_14_148 rfl h (fun a5 h => ?_)
        refine EV_stq mx_200 (pc' := 65) (L' := [some (.ref p0), some (.int p1), some (.long (p1.toInt64 * v4.toInt64)), none, some (.int (0 : Int32)), none, none]) (st' := [.int (0 : Int32), .ref a5]) bo_200_64_446f01 rfl ?_
        refine r_aI mx_200 li_200_65 h (fun v6 h => ?_)
        refine EV_stq mx_200 (pc' := 69) (L' := [some (.ref p0), some (.int p1), some (.long (p1.toInt64 * v4.toInt64)), none, some (.int (0 : Int32)), some (.long v6.toInt64), none]) (st' := []) bo_200_66_b88f8a rfl ?_
        refine EV_forget (A := [some (.ref p0), none, some (.long (p1.toInt64 * v4.toInt64)), none, some (.int (0 : Int32)), some (.long v6.toInt64), none]) (lsub_of _ _ ⟨Or.inr rfl, ⟨Or.inl rfl, ⟨Or.inr rfl, ⟨Or.inl rfl, ⟨Or.inr rfl, ⟨Or.inr rfl, ⟨Or.inl rfl, trivial⟩⟩⟩⟩⟩⟩⟩) ?_
        exact e_m_latency_69 hd FU p0 (p1.toInt64 * v4.toInt64) (0 : Int32) v6.toInt64 M1 r h
      · refine r_ifF mx_200 li_200_26 (by decide) hc ?_
        refine EV_stq mx_200 (pc' := 32) (L' := [some (.ref p0), some (.int p1), none, none, none, none, none]) (st' := [.int (-2 : Int32), .int p1]) bo_200_29_2746c1 rfl ?_
        refine h_ne h (fun h hc => ?_) (fun h hc => ?_)
        · refine r_icF mx_200 li_200_32 (by decide) hc ?_
          refine EV_stq mx_200 (pc' := 36) (L' := [some (.ref p0), some (.int p1), none, none, none, none, none]) (st' := [.ref p0]) bo_200_35_a976ef rfl ?_
          refine r_gJ mx_200 li_200_36 fd_14_249 rfl h (fun v8 h => ?_)
          refine EV_stq mx_200 (pc' := 47) (L' := [some (.ref p0), some (.int p1), none, none, none, none, none]) (st' := [.int v8.toInt32]) bo_200_39_9c41c6 rfl ?_
          obtain rfl := Option.some.inj h
          exact r_ret mx_200 li_200_47 rfl ro_int
        · refine r_icT mx_200 li_200_32 (by decide) rfl hc ?_
          refine EV_stq mx_200 (pc' := 44) (L' := [some (.ref p0), some (.int p1), none, none, none, none, none]) (st' := [.ref p0]) bo_200_43_d85b47 rfl ?_
          refine r_gI mx_200 li_200_44 fd_14_246 ⟨by decide, by decide⟩ h (fun v7 h => ?_)
          obtain rfl := Option.some.inj h
          exact r_ret mx_200 li_200_47 rfl ro_int
theorem e_pl_follow_56 {d : Nat} (hd : 3 ≤ d) (kr : Nat → Int32 → Int32 → Int32 → Mem → Option (Mem)) (hkr : ∀ x0 x1 x2 x3 M r, kr x0 x1 x2 x3 M = some r → EV (d - 1) 201 0 (entL 8 [.ref x0, .int x1, .int x2, .int x3]) [] M (none, r)) : ∀ (n : Nat) (l0 : Nat) (l1 : Int32) (l5 : Nat) (l6 : Int32) (l7 : Int32) (M : Mem) (r : Mem), f_pl_follow_56 kr n l0 l1 l5 l6 l7 M = some r → EV d 201 56 [some (.ref l0), some (.int l1), none, none, none, some (.ref l5), some (.int l6), some (.int l7)] [] M (none, r) := by
  intro n
  induction n with
  | zero => intro l0 l1 l5 l6 l7 M r h; cases h
  | succ n ih =>
    intro l0 l1 l5 l6 l7 M r h
    unfold f_pl_follow_56 at h
    refine EV_stq mx_201 (pc' := 60) (L' := [some (.ref l0), some (.int l1), none, none, none, some (.ref l5), some (.int l6), some (.int l7)]) (st' := [.int l6, .int l7]) bo_201_56_82c6bd rfl ?_
    refine h_ge h (fun h hc => ?_) (fun h hc => ?_)
    · refine r_icT mx_201 li_201_60 (by decide) rfl hc ?_
      obtain rfl := Option.some.inj h
      exact r_ret mx_201 li_201_90 rfl rfl
    · refine r_icF mx_201 li_201_60 (by decide) hc ?_
      refine EV_stq mx_201 (pc' := 71) (L' := [some (.ref l0), some (.int l1), none, none, none, some (.ref l5), some (.int l6), some (.int l7)]) (st' := [.int l7, .ref l5, .int (l1 + (1 : Int32)), .ref l0]) bo_201_63_278a0b rfl ?_
      refine h_ck h (fun hc h => ?_)
      refine h_cI h (fun v2 M1 e h => ?_)
      refine EV_call [.ref l5, .int l7] [.int (l1 + (1 : Int32)), .ref l0] mx_201 li_201_71 rfl rfl si_11_49 rfl (by decide) (by decide) (by omega) ma_99 rfl (Nat.le_of_ble_eq_true rfl) rfl rfl (Nat.le_of_ble_eq_true rfl) (rc_1 mt_at_99 rfl rfl (by decide) hc) (e_rc_keyAt (by omega) l5 l7 M _ e) ?_
      show EV d 201 74 [some (.ref l0), some (.int l1), none, none, none, some (.ref l5), some (.int l6), some (.int l7)] [.int v2, .int (l1 + (1 : Int32)), .ref l0] M1 _
      refine EV_stq mx_201 (pc' := 78) (L' := [some (.ref l0), some (.int l1), none, none, none, some (.ref l5), some (.int l6), some (.int l7)]) (st' := [.int l7, .ref l5, .int v2, .int (l1 + (1 : Int32)), .ref l0]) bo_201_74_b63ff7 rfl ?_
      refine h_ck h (fun hc h => ?_)
      refine h_cI h (fun v4 M3 e h => ?_)
      refine EV_call [.ref l5, .int l7] [.int v2, .int (l1 + (1 : Int32)), .ref l0] mx_201 li_201_78 rfl rfl si_11_55 rfl (by decide) (by decide) (by omega) ma_105 rfl (Nat.le_of_ble_eq_true rfl) rfl rfl (Nat.le_of_ble_eq_true rfl) (rc_1 mt_at_105 rfl rfl (by decide) hc) (e_rc_valueAt (by omega) l5 l7 M1 _ e) ?_
      show EV d 201 81 [some (.ref l0), some (.int l1), none, none, none, some (.ref l5), some (.int l6), some (.int l7)] [.int v4, .int v2, .int (l1 + (1 : Int32)), .ref l0] M3 _
      refine h_cV h (fun M5 e h => ?_)
      refine EV_call [.ref l0, .int (l1 + (1 : Int32)), .int v2, .int v4] [] mx_201 li_201_81 rfl rfl si_11_58 rfl (by decide) (by decide) (by omega) ma_201 rfl (Nat.le_of_ble_eq_true rfl) rfl rfl (Nat.le_of_ble_eq_true rfl) rfl (hkr l0 (l1 + (1 : Int32)) v2 v4 M3 _ e) ?_
      show EV d 201 84 [some (.ref l0), some (.int l1), none, none, none, some (.ref l5), some (.int l6), some (.int l7)] [] M5 _
      refine EV_stq mx_201 (pc' := 56) (L' := [some (.ref l0), some (.int l1), none, none, none, some (.ref l5), some (.int l6), some (.int (l7 + (1 : Int32)))]) (st' := []) bo_201_84_9d3963 rfl ?_
      exact ih l0 l1 l5 l6 (l7 + (1 : Int32)) M5 r h
theorem e_pl_follow_0 {d : Nat} (hd : 3 ≤ d) (kr : Nat → Int32 → Int32 → Int32 → Mem → Option (Mem)) (hkr : ∀ x0 x1 x2 x3 M r, kr x0 x1 x2 x3 M = some r → EV (d - 1) 201 0 (entL 8 [.ref x0, .int x1, .int x2, .int x3]) [] M (none, r)) (p0 : Nat) (p1 : Int32) (p2 : Int32) (p3 : Int32) (M : Mem) (r : Mem) (h : f_pl_follow_0 kr p0 p1 p2 p3 M = some r) : EV d 201 0 (entL 8 [.ref p0, .int p1, .int p2, .int p3]) [] M (none, r) := by
  show EV d 201 0 [some (.ref p0), some (.int p1), some (.int p2), some (.int p3), none, none, none, none] [] M _
  unfold f_pl_follow_0 at h
  refine EV_stq mx_201 (pc' := 2) (L' := [some (.ref p0), some (.int p1), some (.int p2), some (.int p3), none, none, none, none]) (st' := [.int p1, .ref p0]) bo_201_0_264884 rfl ?_
  refine h_ck h (fun hc h => ?_)
  refine h_cR h (fun o2 M1 e h => ?_)
  refine EV_call [.ref p0, .int p1] [] mx_201 li_201_2 rfl rfl si_11_24 rfl (by decide) (by decide) (by omega) ma_56 rfl (Nat.le_of_ble_eq_true rfl) rfl rfl (Nat.le_of_ble_eq_true rfl) (rc_1 mt_at_56 rfl rfl (by decide) hc) (e_sm_operatorAt (by omega) p0 p1 M _ e) ?_
  refine h_onR (G := fun o => EV d 201 5 [some (.ref p0), some (.int p1), some (.int p2), some (.int p3), none, none, none, none] [rfv o] M1 _) h (fun h => ?_) (fun a3 h => ?_)
  · refine EV_stq mx_201 (pc' := 10) (L' := [some (.ref p0), some (.int p1), some (.int p2), some (.int p3), some (.null), none, none, none]) (st' := [.int (6 : Int32), .int p1]) bo_201_5_636245 rfl ?_
    refine h_ge h (fun h hc => ?_) (fun h hc => ?_)
    · refine r_icT mx_201 li_201_10 (by decide) rfl hc ?_
      obtain rfl := Option.some.inj h
      exact r_ret mx_201 li_201_18 rfl rfl
    · refine r_icF mx_201 li_201_10 (by decide) hc ?_
      refine EV_stq mx_201 (pc' := 18) (L' := [some (.ref p0), some (.int p1), some (.int p2), some (.int p3), some (.null), none, none, none]) (st' := []) bo_201_13_839647 rfl ?_
      obtain rfl := Option.some.inj h
      exact r_ret mx_201 li_201_18 rfl rfl
  · refine EV_stq mx_201 (pc' := 10) (L' := [some (.ref p0), some (.int p1), some (.int p2), some (.int p3), some (.ref a3), none, none, none]) (st' := [.int (6 : Int32), .int p1]) bo_201_5_636245 rfl ?_
    refine h_ge h (fun h hc => ?_) (fun h hc => ?_)
    · refine r_icT mx_201 li_201_10 (by decide) rfl hc ?_
      obtain rfl := Option.some.inj h
      exact r_ret mx_201 li_201_18 rfl rfl
    · refine r_icF mx_201 li_201_10 (by decide) hc ?_
      refine EV_stq mx_201 (pc' := 21) (L' := [some (.ref p0), some (.int p1), some (.int p2), some (.int p3), some (.ref a3), none, none, none]) (st' := [.ref a3]) bo_201_13_39500c rfl ?_
      refine r_gA mx_201 li_201_21 fd_11_62 rfl h (fun a4 h => ?_)
      refine EV_stq mx_201 (pc' := 28) (L' := [some (.ref p0), some (.int p1), some (.int p2), some (.int p3), some (.ref a3), some (.ref a4), none, none]) (st' := [.ref a4]) bo_201_24_c12fcd rfl ?_
      refine h_ck h (fun hc h => ?_)
      refine h_cV h (fun M5 e h => ?_)
      refine EV_call [.ref a4] [] mx_201 li_201_28 rfl rfl si_11_65 rfl (by decide) (by decide) (by omega) ma_63 rfl (Nat.le_of_ble_eq_true rfl) rfl rfl (Nat.le_of_ble_eq_true rfl) (rc_1 mt_at_63 rfl rfl (by decide) hc) (e_rc_wipe (by omega) a4 M1 _ e) ?_
      show EV d 201 31 [some (.ref p0), some (.int p1), some (.int p2), some (.int p3), some (.ref a3), some (.ref a4), none, none] [] M5 _
      refine EV_stq mx_201 (pc' := 35) (L' := [some (.ref p0), some (.int p1), some (.int p2), some (.int p3), some (.ref a3), some (.ref a4), none, none]) (st' := [.ref a3, .ref a3]) bo_201_31_83c126 rfl ?_
      refine r_gA mx_201 li_201_35 fd_11_28 rfl h (fun a6 h => ?_)
      refine EV_stq mx_201 (pc' := 43) (L' := [some (.ref p0), some (.int p1), some (.int p2), some (.int p3), some (.ref a3), some (.ref a4), none, none]) (st' := [.ref a4, .int (0 : Int32), .int p3, .int p2, .ref a6, .ref a3]) bo_201_38_883a8f rfl ?_
      refine h_ck h (fun hc h => ?_)
      refine h_cV h (fun M7 e h => ?_)
      refine EV_call [.ref a3, .ref a6, .int p2, .int p3, .int (0 : Int32), .ref a4] [] mx_201 li_201_43 rfl rfl si_11_66 rfl (by decide) (by decide) (by omega) ma_131 rfl (Nat.le_of_ble_eq_true rfl) rfl rfl (Nat.le_of_ble_eq_true rfl) (rc_1 mt_at_131 rfl rfl (by decide) hc) (e_op_handle (by omega) a3 a6 p2 p3 (0 : Int32) a4 M5 _ e) ?_
      show EV d 201 46 [some (.ref p0), some (.int p1), some (.int p2), some (.int p3), some (.ref a3), some (.ref a4), none, none] [] M7 _
      refine EV_stq mx_201 (pc' := 48) (L' := [some (.ref p0), some (.int p1), some (.int p2), some (.int p3), some (.ref a3), some (.ref a4), none, none]) (st' := [.ref a4]) bo_201_46_4b02d4 rfl ?_
      refine r_gI mx_201 li_201_48 fd_11_70 ⟨by decide, by decide⟩ h (fun v8 h => ?_)
      refine EV_stq mx_201 (pc' := 56) (L' := [some (.ref p0), some (.int p1), some (.int p2), some (.int p3), some (.ref a3), some (.ref a4), some (.int v8), some (.int (0 : Int32))]) (st' := []) bo_201_51_6f0c29 rfl ?_
      refine EV_forget (A := [some (.ref p0), some (.int p1), none, none, none, some (.ref a4), some (.int v8), some (.int (0 : Int32))]) (lsub_of _ _ ⟨Or.inr rfl, ⟨Or.inr rfl, ⟨Or.inl rfl, ⟨Or.inl rfl, ⟨Or.inl rfl, ⟨Or.inr rfl, ⟨Or.inr rfl, ⟨Or.inr rfl, trivial⟩⟩⟩⟩⟩⟩⟩⟩) ?_
      exact e_pl_follow_56 hd kr hkr FU p0 p1 a4 v8 (0 : Int32) M7 r h
theorem e_pl_follow : ∀ (n : Nat) {d : Nat} (hd : 3 + n ≤ d) (p0 : Nat) (p1 : Int32) (p2 : Int32) (p3 : Int32) (M : Mem) (r : Mem), f_pl_follow n p0 p1 p2 p3 M = some r → EV d 201 0 (entL 8 [.ref p0, .int p1, .int p2, .int p3]) [] M (none, r) := by
  intro n
  induction n with
  | zero => intro d hd p0 p1 p2 p3 M r h; cases h
  | succ n ih =>
    intro d hd p0 p1 p2 p3 M r h
    exact e_pl_follow_0 (by omega) (f_pl_follow n) (fun x0 x1 x2 x3 M r h => ih (by omega) x0 x1 x2 x3 M r h) p0 p1 p2 p3 M r h
theorem e_pl_catchUp_31 {d : Nat} (hd : 12 ≤ d) : ∀ (n : Nat) (l0 : Nat) (l1 : Nat) (l2 : Int32) (M : Mem) (r : Mem), f_pl_catchUp_31 n l0 l1 l2 M = some r → EV d 202 31 [some (.ref l0), some (.ref l1), some (.int l2)] [] M (none, r) := by
  intro n
  induction n with
  | zero => intro l0 l1 l2 M r h; cases h
  | succ n ih =>
    intro l0 l1 l2 M r h
    unfold f_pl_catchUp_31 at h
    refine EV_stq mx_202 (pc' := 33) (L' := [some (.ref l0), some (.ref l1), some (.int l2)]) (st' := [.ref l0, .int l2]) bo_202_31_f6932f rfl ?_
    refine r_gA mx_202 li_202_33 fd_11_9 rfl h (fun a1 h => ?_)
    refine r_gI mx_202 li_202_36 fd_11_39 ⟨by decide, by decide⟩ h (fun v2 h => ?_)
    refine h_ge h (fun h hc => ?_) (fun h hc => ?_)
    · refine r_icT mx_202 li_202_39 (by decide) rfl hc ?_
      refine EV_stq mx_202 (pc' := 68) (L' := [some (.ref l0), some (.ref l1), some (.int l2)]) (st' := [.ref l0, .ref l0]) bo_202_66_b88f8a rfl ?_
      refine r_gA mx_202 li_202_68 fd_11_9 rfl h (fun a3 h => ?_)
      refine r_gI mx_202 li_202_71 fd_11_39 ⟨by decide, by decide⟩ h (fun v4 h => ?_)
      refine r_pI mx_202 li_202_74 fd_11_15 (Or.inl rfl) rfl h (fun M5 h => ?_)
      obtain rfl := Option.some.inj h
      exact r_ret mx_202 li_202_77 rfl rfl
    · refine r_icF mx_202 li_202_39 (by decide) hc ?_
      refine EV_stq mx_202 (pc' := 43) (L' := [some (.ref l0), some (.ref l1), some (.int l2)]) (st' := [.ref l0]) bo_202_42_b358e7 rfl ?_
      refine r_gA mx_202 li_202_43 fd_11_9 rfl h (fun a6 h => ?_)
      refine EV_stq mx_202 (pc' := 49) (L' := [some (.ref l0), some (.ref l1), some (.int l2)]) (st' := [.int l2, .ref l1, .int (1 : Int32), .ref a6]) bo_202_46_2efbd7 rfl ?_
      refine h_ck h (fun hc h => ?_)
      refine h_cI h (fun v8 M7 e h => ?_)
      refine EV_call [.ref l1, .int l2] [.int (1 : Int32), .ref a6] mx_202 li_202_49 rfl rfl si_11_49 rfl (by decide) (by decide) (by omega) ma_99 rfl (Nat.le_of_ble_eq_true rfl) rfl rfl (Nat.le_of_ble_eq_true rfl) (rc_1 mt_at_99 rfl rfl (by decide) hc) (e_rc_keyAt (by omega) l1 l2 M _ e) ?_
      show EV d 202 52 [some (.ref l0), some (.ref l1), some (.int l2)] [.int v8, .int (1 : Int32), .ref a6] M7 _
      refine EV_stq mx_202 (pc' := 54) (L' := [some (.ref l0), some (.ref l1), some (.int l2)]) (st' := [.int l2, .ref l1, .int v8, .int (1 : Int32), .ref a6]) bo_202_52_9f6391 rfl ?_
      refine h_ck h (fun hc h => ?_)
      refine h_cI h (fun v10 M9 e h => ?_)
      refine EV_call [.ref l1, .int l2] [.int v8, .int (1 : Int32), .ref a6] mx_202 li_202_54 rfl rfl si_11_55 rfl (by decide) (by decide) (by omega) ma_105 rfl (Nat.le_of_ble_eq_true rfl) rfl rfl (Nat.le_of_ble_eq_true rfl) (rc_1 mt_at_105 rfl rfl (by decide) hc) (e_rc_valueAt (by omega) l1 l2 M7 _ e) ?_
      show EV d 202 57 [some (.ref l0), some (.ref l1), some (.int l2)] [.int v10, .int v8, .int (1 : Int32), .ref a6] M9 _
      refine h_cV h (fun M11 e h => ?_)
      refine EV_call [.ref a6, .int (1 : Int32), .int v8, .int v10] [] mx_202 li_202_57 rfl rfl si_11_58 rfl (by decide) (by decide) (by omega) ma_201 rfl (Nat.le_of_ble_eq_true rfl) rfl rfl (Nat.le_of_ble_eq_true rfl) rfl (e_pl_follow 8 (by omega) a6 (1 : Int32) v8 v10 M9 _ e) ?_
      show EV d 202 60 [some (.ref l0), some (.ref l1), some (.int l2)] [] M11 _
      refine EV_stq mx_202 (pc' := 31) (L' := [some (.ref l0), some (.ref l1), some (.int (l2 + (1 : Int32)))]) (st' := []) bo_202_60_273e85 rfl ?_
      exact ih l0 l1 (l2 + (1 : Int32)) M11 r h
theorem e_pl_catchUp_18 {d : Nat} (hd : 12 ≤ d) (l0 : Nat) (M : Mem) (r : Mem) (h : f_pl_catchUp_18 l0 M = some r) : EV d 202 18 [some (.ref l0), none, none] [] M (none, r) := by
  unfold f_pl_catchUp_18 at h
  refine EV_stq mx_202 (pc' := 19) (L' := [some (.ref l0), none, none]) (st' := [.ref l0]) bo_202_18_2b31d8 rfl ?_
  refine r_gA mx_202 li_202_19 fd_11_9 rfl h (fun a1 h => ?_)
  refine r_gA mx_202 li_202_22 fd_11_45 rfl h (fun a2 h => ?_)
  refine EV_stq mx_202 (pc' := 27) (L' := [some (.ref l0), some (.ref a2), none]) (st' := [.ref l0]) bo_202_25_6328ed rfl ?_
  refine r_gI mx_202 li_202_27 fd_11_15 ⟨by decide, by decide⟩ h (fun v3 h => ?_)
  refine EV_stq mx_202 (pc' := 31) (L' := [some (.ref l0), some (.ref a2), some (.int v3)]) (st' := []) bo_202_30_0b4e4a rfl ?_
  exact e_pl_catchUp_31 hd FU l0 a2 v3 M r h
theorem e_pl_catchUp {d : Nat} (hd : 12 ≤ d) (p0 : Nat) (M : Mem) (r : Mem) (h : f_pl_catchUp p0 M = some r) : EV d 202 0 (entL 3 [.ref p0]) [] M (none, r) := by
  show EV d 202 0 [some (.ref p0), none, none] [] M _
  unfold f_pl_catchUp at h
  refine EV_stq mx_202 (pc' := 1) (L' := [some (.ref p0), none, none]) (st' := [.ref p0]) bo_202_0_8d5162 rfl ?_
  refine r_gI mx_202 li_202_1 fd_11_15 ⟨by decide, by decide⟩ h (fun v1 h => ?_)
  refine EV_stq mx_202 (pc' := 5) (L' := [some (.ref p0), none, none]) (st' := [.ref p0, .int v1]) bo_202_4_e962e2 rfl ?_
  refine r_gA mx_202 li_202_5 fd_11_9 rfl h (fun a2 h => ?_)
  refine r_gI mx_202 li_202_8 fd_11_39 ⟨by decide, by decide⟩ h (fun v3 h => ?_)
  refine h_le h (fun h hc => ?_) (fun h hc => ?_)
  · refine r_icT mx_202 li_202_11 (by decide) rfl hc ?_
    exact e_pl_catchUp_18 hd p0 M r h
  · refine r_icF mx_202 li_202_11 (by decide) hc ?_
    refine EV_stq mx_202 (pc' := 15) (L' := [some (.ref p0), none, none]) (st' := [.ref p0]) bo_202_14_3e81ce rfl ?_
    refine h_ck h (fun hc h => ?_)
    refine h_cV h (fun M4 e h => ?_)
    refine EV_call [.ref p0] [] mx_202 li_202_15 rfl rfl si_11_42 rfl (by decide) (by decide) (by omega) ma_71 rfl (Nat.le_of_ble_eq_true rfl) rfl rfl (Nat.le_of_ble_eq_true rfl) (rc_1 mt_at_71 rfl rfl (by decide) hc) (e_pl_forget (by omega) p0 M _ e) ?_
    show EV d 202 18 [some (.ref p0), none, none] [] M4 _
    exact e_pl_catchUp_18 hd p0 M4 r h
theorem e_x_plain {d : Nat} (hd : 13 ≤ d) (p0 : Nat) (p1 : Int32) (p2 : Int32) (M : Mem) (r : Int32 × Mem) (h : f_x_plain p0 p1 p2 M = some r) : EV d 203 0 (entL 4 [.ref p0, .int p1, .int p2]) [] M (some (.int r.1), r.2) := by
  show EV d 203 0 [some (.ref p0), some (.int p1), some (.int p2), none] [] M _
  unfold f_x_plain at h
  refine EV_stq mx_203 (pc' := 1) (L' := [some (.ref p0), some (.int p1), some (.int p2), none]) (st' := [.ref p0]) bo_203_0_8d5162 rfl ?_
  refine r_gA mx_203 li_203_1 fd_13_31 rfl h (fun a1 h => ?_)
  refine EV_stq mx_203 (pc' := 5) (L' := [some (.ref p0), some (.int p1), some (.int p2), none]) (st' := [.ref p0, .ref a1]) bo_203_4_e962e2 rfl ?_
  refine r_gA mx_203 li_203_5 fd_13_31 rfl h (fun a2 h => ?_)
  refine r_gI mx_203 li_203_8 fd_13_80 ⟨by decide, by decide⟩ h (fun v3 h => ?_)
  refine EV_stq mx_203 (pc' := 13) (L' := [some (.ref p0), some (.int p1), some (.int p2), none]) (st' := [.int (v3 + (1 : Int32)), .ref a1]) bo_203_11_274bbd rfl ?_
  refine h_ck h (fun hc h => ?_)
  refine h_cR h (fun o5 M4 e h => ?_)
  refine EV_call [.ref a1, .int (v3 + (1 : Int32))] [] mx_203 li_203_13 rfl rfl si_13_133 rfl (by decide) (by decide) (by omega) ma_56 rfl (Nat.le_of_ble_eq_true rfl) rfl rfl (Nat.le_of_ble_eq_true rfl) (rc_1 mt_at_56 rfl rfl (by decide) hc) (e_sm_operatorAt (by omega) a1 (v3 + (1 : Int32)) M _ e) ?_
  refine h_onR (G := fun o => EV d 203 16 [some (.ref p0), some (.int p1), some (.int p2), none] [rfv o] M4 _) h (fun h => ?_) (fun a6 h => ?_)
  · refine EV_stq mx_203 (pc' := 23) (L' := [some (.ref p0), some (.int p1), some (.int p2), some (.null)]) (st' := [.int (-1000000001 : Int32)]) bo_203_16_754a04 rfl ?_
    obtain rfl := Option.some.inj h
    exact r_ret mx_203 li_203_23 rfl ro_int
  · refine EV_stq mx_203 (pc' := 25) (L' := [some (.ref p0), some (.int p1), some (.int p2), some (.ref a6)]) (st' := [.ref p0]) bo_203_16_8aca17 rfl ?_
    refine r_gA mx_203 li_203_25 fd_13_40 rfl h (fun a7 h => ?_)
    refine h_ck h (fun hc h => ?_)
    refine h_cV h (fun M8 e h => ?_)
    refine EV_call [.ref a7] [] mx_203 li_203_28 rfl rfl si_13_256 rfl (by decide) (by decide) (by omega) ma_202 rfl (Nat.le_of_ble_eq_true rfl) rfl rfl (Nat.le_of_ble_eq_true rfl) (rc_1 mt_at_202 rfl rfl (by decide) hc) (e_pl_catchUp (by omega) a7 M4 _ e) ?_
    show EV d 203 31 [some (.ref p0), some (.int p1), some (.int p2), some (.ref a6)] [] M8 _
    refine EV_stq mx_203 (pc' := 32) (L' := [some (.ref p0), some (.int p1), some (.int p2), some (.ref a6)]) (st' := [.ref a6]) bo_203_31_c379e3 rfl ?_
    refine r_gA mx_203 li_203_32 fd_13_259 rfl h (fun a9 h => ?_)
    refine EV_stq mx_203 (pc' := 37) (L' := [some (.ref p0), some (.int p1), some (.int p2), some (.ref a6)]) (st' := [.int p2, .int p1, .ref a9]) bo_203_35_b49e7d rfl ?_
    refine h_cI h (fun v11 M10 e h => ?_)
    refine EV_call [.ref a9, .int p1, .int p2] [] mx_203 li_203_37 rfl rfl si_13_234 rfl (by decide) (by decide) (by omega) ma_192 rfl (Nat.le_of_ble_eq_true rfl) rfl rfl (Nat.le_of_ble_eq_true rfl) rfl (e_x_numberOf (by omega) a9 p1 p2 M8 _ e) ?_
    show EV d 203 40 [some (.ref p0), some (.int p1), some (.int p2), some (.ref a6)] [.int v11] M10 _
    obtain rfl := Option.some.inj h
    exact r_ret mx_203 li_203_40 rfl ro_int
theorem e_m_plainly_115 {d : Nat} (hd : 2 ≤ d) (k23 : Nat → Int32 → Mem → Option (Mem)) (hk23 : ∀ l0 l1 M r, k23 l0 l1 M = some r → EV d 204 23 [some (.ref l0), some (.int l1), none, none, none] [] M (none, r)) (k64 : Nat → Int32 → Int32 → Mem → Option (Mem)) (hk64 : ∀ l0 l1 l2 M r, k64 l0 l1 l2 M = some r → EV d 204 64 [some (.ref l0), some (.int l1), some (.int l2), none, none] [] M (none, r)) : ∀ (n : Nat) (l0 : Nat) (l1 : Int32) (l2 : Int32) (l3 : Int32) (l4 : Int32) (M : Mem) (r : Mem), f_m_plainly_115 k23 k64 n l0 l1 l2 l3 l4 M = some r → EV d 204 115 [some (.ref l0), some (.int l1), some (.int l2), some (.int l3), some (.int l4)] [] M (none, r) := by
  intro n
  induction n with
  | zero => intro l0 l1 l2 l3 l4 M r h; cases h
  | succ n ih =>
    intro l0 l1 l2 l3 l4 M r h
    unfold f_m_plainly_115 at h
    refine EV_stq mx_204 (pc' := 117) (L' := [some (.ref l0), some (.int l1), some (.int l2), some (.int l3), some (.int l4)]) (st' := [.int l4]) bo_204_115_b9a51b rfl ?_
    refine h_lt h (fun h hc => ?_) (fun h hc => ?_)
    · refine r_ifT mx_204 li_204_117 (by decide) rfl hc ?_
      refine EV_stq mx_204 (pc' := 64) (L' := [some (.ref l0), some (.int l1), some (.int l2), some (.int l3), some (.int l4)]) (st' := []) bo_204_164_360521 rfl ?_
      refine EV_forget (A := [some (.ref l0), some (.int l1), some (.int l2), none, none]) (lsub_of _ _ ⟨Or.inr rfl, ⟨Or.inr rfl, ⟨Or.inr rfl, ⟨Or.inl rfl, ⟨Or.inl rfl, trivial⟩⟩⟩⟩⟩) ?_
      exact hk64 l0 l1 l2 M r h
    · refine r_ifF mx_204 li_204_117 (by decide) hc ?_
      refine EV_stq mx_204 (pc' := 121) (L' := [some (.ref l0), some (.int l1), some (.int l2), some (.int l3), some (.int l4)]) (st' := [.ref l0]) bo_204_120_9b2503 rfl ?_
      refine r_gA mx_204 li_204_121 fd_14_178 rfl h (fun a1 h => ?_)
      refine EV_stq mx_204 (pc' := 128) (L' := [some (.ref l0), some (.int l1), some (.int l2), some (.int l3), some (.int l4)]) (st' := [.int (l3 + (1 : Int32)), .int l2, .ref a1]) bo_204_124_9bd989 rfl ?_
      refine r_sI mx_204 li_204_128 h (fun M2 h => ?_)
      refine EV_stq mx_204 (pc' := 130) (L' := [some (.ref l0), some (.int l1), some (.int l2), some (.int l3), some (.int l4)]) (st' := [.ref l0]) bo_204_129_624512 rfl ?_
      refine r_gA mx_204 li_204_130 fd_14_181 rfl h (fun a3 h => ?_)
      refine EV_stq mx_204 (pc' := 135) (L' := [some (.ref l0), some (.int l1), some (.int l2), some (.int l3), some (.int l4)]) (st' := [.ref l0, .int l2, .ref a3]) bo_204_133_053401 rfl ?_
      refine r_gA mx_204 li_204_135 fd_14_163 rfl h (fun a4 h => ?_)
      refine EV_stq mx_204 (pc' := 140) (L' := [some (.ref l0), some (.int l1), some (.int l2), some (.int l3), some (.int l4)]) (st' := [.int l4, .ref a4, .int l2, .ref a3]) bo_204_138_dc044b rfl ?_
      refine r_aI mx_204 li_204_140 h (fun v5 h => ?_)
      refine r_sI mx_204 li_204_141 h (fun M6 h => ?_)
      refine EV_stq mx_204 (pc' := 143) (L' := [some (.ref l0), some (.int l1), some (.int l2), some (.int l3), some (.int l4)]) (st' := [.ref l0]) bo_204_142_5324d1 rfl ?_
      refine r_gA mx_204 li_204_143 fd_14_184 rfl h (fun a7 h => ?_)
      refine EV_stq mx_204 (pc' := 148) (L' := [some (.ref l0), some (.int l1), some (.int l2), some (.int l3), some (.int l4)]) (st' := [.ref l0, .int l2, .ref a7]) bo_204_146_b04cb9 rfl ?_
      refine r_gA mx_204 li_204_148 fd_14_166 rfl h (fun a8 h => ?_)
      refine EV_stq mx_204 (pc' := 153) (L' := [some (.ref l0), some (.int l1), some (.int l2), some (.int l3), some (.int l4)]) (st' := [.int l4, .ref a8, .int l2, .ref a7]) bo_204_151_b28053 rfl ?_
      refine r_aI mx_204 li_204_153 h (fun v9 h => ?_)
      refine r_sI mx_204 li_204_154 h (fun M10 h => ?_)
      refine EV_stq mx_204 (pc' := 115) (L' := [some (.ref l0), some (.int l1), some (.int (l2 + (1 : Int32))), some (.int l3), some (.int (l4 + (-1 : Int32)))]) (st' := []) bo_204_155_6769de rfl ?_
      exact ih l0 l1 (l2 + (1 : Int32)) l3 (l4 + (-1 : Int32)) M10 r h
theorem e_m_plainly_64 {d : Nat} (hd : 2 ≤ d) (k23 : Nat → Int32 → Mem → Option (Mem)) (hk23 : ∀ l0 l1 M r, k23 l0 l1 M = some r → EV d 204 23 [some (.ref l0), some (.int l1), none, none, none] [] M (none, r)) : ∀ (n : Nat) (l0 : Nat) (l1 : Int32) (l2 : Int32) (M : Mem) (r : Mem), f_m_plainly_64 k23 n l0 l1 l2 M = some r → EV d 204 64 [some (.ref l0), some (.int l1), some (.int l2), none, none] [] M (none, r) := by
  intro n
  induction n with
  | zero => intro l0 l1 l2 M r h; cases h
  | succ n ih =>
    intro l0 l1 l2 M r h
    unfold f_m_plainly_64 at h
    refine EV_stq mx_204 (pc' := 65) (L' := [some (.ref l0), some (.int l1), some (.int l2), none, none]) (st' := [.int l2]) bo_204_64_446f01 rfl ?_
    refine h_le h (fun h hc => ?_) (fun h hc => ?_)
    · refine r_ifT mx_204 li_204_65 (by decide) rfl hc ?_
      refine EV_stq mx_204 (pc' := 23) (L' := [some (.ref l0), some (.int (l1 + (1 : Int32))), some (.int l2), none, none]) (st' := []) bo_204_167_a6c2da rfl ?_
      refine EV_forget (A := [some (.ref l0), some (.int (l1 + (1 : Int32))), none, none, none]) (lsub_of _ _ ⟨Or.inr rfl, ⟨Or.inr rfl, ⟨Or.inl rfl, ⟨Or.inl rfl, ⟨Or.inl rfl, trivial⟩⟩⟩⟩⟩) ?_
      exact hk23 l0 (l1 + (1 : Int32)) M r h
    · refine r_ifF mx_204 li_204_65 (by decide) hc ?_
      refine EV_stq mx_204 (pc' := 72) (L' := [some (.ref l0), some (.int l1), some (.int (l2 + (-1 : Int32))), none, none]) (st' := [.ref l0]) bo_204_68_ab375b rfl ?_
      refine r_gA mx_204 li_204_72 fd_14_178 rfl h (fun a1 h => ?_)
      refine EV_stq mx_204 (pc' := 76) (L' := [some (.ref l0), some (.int l1), some (.int (l2 + (-1 : Int32))), none, none]) (st' := [.int (l2 + (-1 : Int32)), .ref a1]) bo_204_75_1f1f88 rfl ?_
      refine r_aI mx_204 li_204_76 h (fun v2 h => ?_)
      refine EV_stq mx_204 (pc' := 81) (L' := [some (.ref l0), some (.int l1), some (.int (l2 + (-1 : Int32))), some (.int v2), none]) (st' := [.ref l0, .int v2, .ref l0]) bo_204_77_0f3e72 rfl ?_
      refine r_gA mx_204 li_204_81 fd_14_181 rfl h (fun a3 h => ?_)
      refine EV_stq mx_204 (pc' := 85) (L' := [some (.ref l0), some (.int l1), some (.int (l2 + (-1 : Int32))), some (.int v2), none]) (st' := [.int (l2 + (-1 : Int32)), .ref a3, .int v2, .ref l0]) bo_204_84_8a7630 rfl ?_
      refine r_aI mx_204 li_204_85 h (fun v4 h => ?_)
      refine EV_stq mx_204 (pc' := 87) (L' := [some (.ref l0), some (.int l1), some (.int (l2 + (-1 : Int32))), some (.int v2), none]) (st' := [.ref l0, .int v4, .int v2, .ref l0]) bo_204_86_bff005 rfl ?_
      refine r_gA mx_204 li_204_87 fd_14_184 rfl h (fun a5 h => ?_)
      refine EV_stq mx_204 (pc' := 91) (L' := [some (.ref l0), some (.int l1), some (.int (l2 + (-1 : Int32))), some (.int v2), none]) (st' := [.int (l2 + (-1 : Int32)), .ref a5, .int v4, .int v2, .ref l0]) bo_204_90_d3b5bf rfl ?_
      refine r_aI mx_204 li_204_91 h (fun v6 h => ?_)
      refine EV_stq mx_204 (pc' := 93) (L' := [some (.ref l0), some (.int l1), some (.int (l2 + (-1 : Int32))), some (.int v2), none]) (st' := [.ref l0, .int v6, .int v4, .int v2, .ref l0]) bo_204_92_b12865 rfl ?_
      refine r_gA mx_204 li_204_93 fd_14_169 rfl h (fun a7 h => ?_)
      refine EV_stq mx_204 (pc' := 97) (L' := [some (.ref l0), some (.int l1), some (.int (l2 + (-1 : Int32))), some (.int v2), none]) (st' := [.ref l0, .ref a7, .int v6, .int v4, .int v2, .ref l0]) bo_204_96_2375ef rfl ?_
      refine r_gA mx_204 li_204_97 fd_14_172 rfl h (fun a8 h => ?_)
      refine EV_stq mx_204 (pc' := 101) (L' := [some (.ref l0), some (.int l1), some (.int (l2 + (-1 : Int32))), some (.int v2), none]) (st' := [.ref l0, .ref a8, .ref a7, .int v6, .int v4, .int v2, .ref l0]) bo_204_100_5dd146 rfl ?_
      refine r_gA mx_204 li_204_101 fd_14_175 rfl h (fun a9 h => ?_)
      refine h_ck h (fun hc h => ?_)
      refine h_cV h (fun M10 e h => ?_)
      refine EV_call [.ref l0, .int v2, .int v4, .int v6, .ref a7, .ref a8, .ref a9] [] mx_204 li_204_104 rfl rfl si_14_301 rfl (by decide) (by decide) (by omega) ma_160 rfl (Nat.le_of_ble_eq_true rfl) rfl rfl (Nat.le_of_ble_eq_true rfl) (rc_1 mt_at_160 rfl rfl (by decide) hc) (e_m_processes (by omega) l0 v2 v4 v6 a7 a8 a9 M _ e) ?_
      show EV d 204 107 [some (.ref l0), some (.int l1), some (.int (l2 + (-1 : Int32))), some (.int v2), none] [] M10 _
      refine EV_stq mx_204 (pc' := 108) (L' := [some (.ref l0), some (.int l1), some (.int (l2 + (-1 : Int32))), some (.int v2), none]) (st' := [.ref l0]) bo_204_107_0ab20e rfl ?_
      refine r_gI mx_204 li_204_108 fd_14_291 ⟨by decide, by decide⟩ h (fun v11 h => ?_)
      refine EV_stq mx_204 (pc' := 115) (L' := [some (.ref l0), some (.int l1), some (.int (l2 + (-1 : Int32))), some (.int v2), some (.int (v11 - (1 : Int32)))]) (st' := []) bo_204_111_fafd5d rfl ?_
      exact e_m_plainly_115 hd k23 hk23 _ ih FU l0 l1 (l2 + (-1 : Int32)) v2 (v11 - (1 : Int32)) M10 r h
theorem e_m_plainly_23 {d : Nat} (hd : 2 ≤ d) : ∀ (n : Nat) (l0 : Nat) (l1 : Int32) (M : Mem) (r : Mem), f_m_plainly_23 n l0 l1 M = some r → EV d 204 23 [some (.ref l0), some (.int l1), none, none, none] [] M (none, r) := by
  intro n
  induction n with
  | zero => intro l0 l1 M r h; cases h
  | succ n ih =>
    intro l0 l1 M r h
    unfold f_m_plainly_23 at h
    refine EV_stq mx_204 (pc' := 25) (L' := [some (.ref l0), some (.int l1), none, none, none]) (st' := [.ref l0, .int l1]) bo_204_23_31ad6f rfl ?_
    refine r_gI mx_204 li_204_25 fd_14_271 ⟨by decide, by decide⟩ h (fun v1 h => ?_)
    refine h_ge h (fun h hc => ?_) (fun h hc => ?_)
    · refine r_icT mx_204 li_204_28 (by decide) rfl hc ?_
      obtain rfl := Option.some.inj h
      exact r_ret mx_204 li_204_173 rfl rfl
    · refine r_icF mx_204 li_204_28 (by decide) hc ?_
      refine EV_stq mx_204 (pc' := 34) (L' := [some (.ref l0), some (.int l1), some (.int (1 : Int32)), none, none]) (st' := [.ref l0]) bo_204_31_d48d79 rfl ?_
      refine r_gA mx_204 li_204_34 fd_14_178 rfl h (fun a2 h => ?_)
      refine EV_stq mx_204 (pc' := 39) (L' := [some (.ref l0), some (.int l1), some (.int (1 : Int32)), none, none]) (st' := [.int (1 : Int32), .int (0 : Int32), .ref a2]) bo_204_37_b7e9cc rfl ?_
      refine r_sI mx_204 li_204_39 h (fun M3 h => ?_)
      refine EV_stq mx_204 (pc' := 41) (L' := [some (.ref l0), some (.int l1), some (.int (1 : Int32)), none, none]) (st' := [.ref l0]) bo_204_40_d0cc5b rfl ?_
      refine r_gA mx_204 li_204_41 fd_14_181 rfl h (fun a4 h => ?_)
      refine EV_stq mx_204 (pc' := 46) (L' := [some (.ref l0), some (.int l1), some (.int (1 : Int32)), none, none]) (st' := [.ref l0, .int (0 : Int32), .ref a4]) bo_204_44_e175ea rfl ?_
      refine r_gA mx_204 li_204_46 fd_14_38 rfl h (fun a5 h => ?_)
      refine EV_stq mx_204 (pc' := 50) (L' := [some (.ref l0), some (.int l1), some (.int (1 : Int32)), none, none]) (st' := [.int l1, .ref a5, .int (0 : Int32), .ref a4]) bo_204_49_e052b7 rfl ?_
      refine r_aI mx_204 li_204_50 h (fun v6 h => ?_)
      refine r_sI mx_204 li_204_51 h (fun M7 h => ?_)
      refine EV_stq mx_204 (pc' := 53) (L' := [some (.ref l0), some (.int l1), some (.int (1 : Int32)), none, none]) (st' := [.ref l0]) bo_204_52_118d3f rfl ?_
      refine r_gA mx_204 li_204_53 fd_14_184 rfl h (fun a8 h => ?_)
      refine EV_stq mx_204 (pc' := 58) (L' := [some (.ref l0), some (.int l1), some (.int (1 : Int32)), none, none]) (st' := [.ref l0, .int (0 : Int32), .ref a8]) bo_204_56_ba4435 rfl ?_
      refine r_gA mx_204 li_204_58 fd_14_41 rfl h (fun a9 h => ?_)
      refine EV_stq mx_204 (pc' := 62) (L' := [some (.ref l0), some (.int l1), some (.int (1 : Int32)), none, none]) (st' := [.int l1, .ref a9, .int (0 : Int32), .ref a8]) bo_204_61_769b30 rfl ?_
      refine r_aI mx_204 li_204_62 h (fun v10 h => ?_)
      refine r_sI mx_204 li_204_63 h (fun M11 h => ?_)
      exact e_m_plainly_64 hd _ ih FU l0 l1 (1 : Int32) M11 r h
theorem e_m_plainly_2 {d : Nat} (hd : 2 ≤ d) : ∀ (n : Nat) (l0 : Nat) (l1 : Int32) (M : Mem) (r : Mem), f_m_plainly_2 n l0 l1 M = some r → EV d 204 2 [some (.ref l0), some (.int l1), none, none, none] [] M (none, r) := by
  intro n
  induction n with
  | zero => intro l0 l1 M r h; cases h
  | succ n ih =>
    intro l0 l1 M r h
    unfold f_m_plainly_2 at h
    refine EV_stq mx_204 (pc' := 5) (L' := [some (.ref l0), some (.int l1), none, none, none]) (st' := [.int (96 : Int32), .int l1]) bo_204_2_d916f9 rfl ?_
    refine h_ge h (fun h hc => ?_) (fun h hc => ?_)
    · refine r_icT mx_204 li_204_5 (by decide) rfl hc ?_
      refine EV_stq mx_204 (pc' := 23) (L' := [some (.ref l0), some (.int (0 : Int32)), none, none, none]) (st' := []) bo_204_21_13696e rfl ?_
      exact e_m_plainly_23 hd FU l0 (0 : Int32) M r h
    · refine r_icF mx_204 li_204_5 (by decide) hc ?_
      refine EV_stq mx_204 (pc' := 9) (L' := [some (.ref l0), some (.int l1), none, none, none]) (st' := [.ref l0]) bo_204_8_383530 rfl ?_
      refine r_gA mx_204 li_204_9 fd_14_169 rfl h (fun a1 h => ?_)
      refine EV_stq mx_204 (pc' := 14) (L' := [some (.ref l0), some (.int l1), none, none, none]) (st' := [.int (0 : Int32), .int l1, .ref a1]) bo_204_12_1089ca rfl ?_
      refine r_sB mx_204 li_204_14 h (fun M2 h => ?_)
      refine EV_stq mx_204 (pc' := 2) (L' := [some (.ref l0), some (.int (l1 + (1 : Int32))), none, none, none]) (st' := []) bo_204_15_a5e079 rfl ?_
      exact ih l0 (l1 + (1 : Int32)) M2 r h
theorem e_m_plainly {d : Nat} (hd : 2 ≤ d) (p0 : Nat) (M : Mem) (r : Mem) (h : f_m_plainly p0 M = some r) : EV d 204 0 (entL 5 [.ref p0]) [] M (none, r) := by
  show EV d 204 0 [some (.ref p0), none, none, none, none] [] M _
  unfold f_m_plainly at h
  refine EV_stq mx_204 (pc' := 2) (L' := [some (.ref p0), some (.int (0 : Int32)), none, none, none]) (st' := []) bo_204_0_264884 rfl ?_
  exact e_m_plainly_2 hd FU p0 (0 : Int32) M r h
theorem e_m_plain {d : Nat} (hd : 3 ≤ d) (p0 : Nat) (p1 : Int32) (p2 : Int32) (M : Mem) (r : Int32 × Mem) (h : f_m_plain p0 p1 p2 M = some r) : EV d 205 0 (entL 3 [.ref p0, .int p1, .int p2]) [] M (some (.int r.1), r.2) := by
  show EV d 205 0 [some (.ref p0), some (.int p1), some (.int p2)] [] M _
  unfold f_m_plain at h
  refine EV_stq mx_205 (pc' := 1) (L' := [some (.ref p0), some (.int p1), some (.int p2)]) (st' := [.ref p0]) bo_205_0_8d5162 rfl ?_
  refine h_ck h (fun hc h => ?_)
  refine h_cV h (fun M1 e h => ?_)
  refine EV_call [.ref p0] [] mx_205 li_205_1 rfl rfl si_14_390 rfl (by decide) (by decide) (by omega) ma_204 rfl (Nat.le_of_ble_eq_true rfl) rfl rfl (Nat.le_of_ble_eq_true rfl) (rc_1 mt_at_204 rfl rfl (by decide) hc) (e_m_plainly (by omega) p0 M _ e) ?_
  show EV d 205 4 [some (.ref p0), some (.int p1), some (.int p2)] [] M1 _
  refine EV_stq mx_205 (pc' := 6) (L' := [some (.ref p0), some (.int p1), some (.int p2)]) (st' := [.ref p0, .ref p0]) bo_205_4_40e659 rfl ?_
  refine h_ck h (fun hc h => ?_)
  refine h_cI h (fun v3 M2 e h => ?_)
  refine EV_call [.ref p0] [.ref p0] mx_205 li_205_6 rfl rfl si_14_199 rfl (by decide) (by decide) (by omega) ma_140 rfl (Nat.le_of_ble_eq_true rfl) rfl rfl (Nat.le_of_ble_eq_true rfl) (rc_1 mt_at_140 rfl rfl (by decide) hc) (e_m_sink (by omega) p0 M1 _ e) ?_
  show EV d 205 9 [some (.ref p0), some (.int p1), some (.int p2)] [.int v3, .ref p0] M2 _
  refine EV_stq mx_205 (pc' := 12) (L' := [some (.ref p0), some (.int p1), some (.int p2)]) (st' := [.ref p0, .int p2, .int p1, .int v3, .ref p0]) bo_205_9_94b225 rfl ?_
  refine r_gA mx_205 li_205_12 fd_14_169 rfl h (fun a4 h => ?_)
  refine EV_stq mx_205 (pc' := 16) (L' := [some (.ref p0), some (.int p1), some (.int p2)]) (st' := [.ref p0, .ref a4, .int p2, .int p1, .int v3, .ref p0]) bo_205_15_be4250 rfl ?_
  refine r_gA mx_205 li_205_16 fd_14_172 rfl h (fun a5 h => ?_)
  refine EV_stq mx_205 (pc' := 20) (L' := [some (.ref p0), some (.int p1), some (.int p2)]) (st' := [.ref p0, .ref a5, .ref a4, .int p2, .int p1, .int v3, .ref p0]) bo_205_19_1a8444 rfl ?_
  refine r_gA mx_205 li_205_20 fd_14_175 rfl h (fun a6 h => ?_)
  refine h_ck h (fun hc h => ?_)
  refine h_cI h (fun v8 M7 e h => ?_)
  refine EV_call [.ref p0, .int v3, .int p1, .int p2, .ref a4, .ref a5, .ref a6] [] mx_205 li_205_23 rfl rfl si_14_386 rfl (by decide) (by decide) (by omega) ma_194 rfl (Nat.le_of_ble_eq_true rfl) rfl rfl (Nat.le_of_ble_eq_true rfl) (rc_1 mt_at_194 rfl rfl (by decide) hc) (e_m_told (by omega) p0 v3 p1 p2 a4 a5 a6 M2 _ e) ?_
  show EV d 205 26 [some (.ref p0), some (.int p1), some (.int p2)] [.int v8] M7 _
  obtain rfl := Option.some.inj h
  exact r_ret mx_205 li_205_26 rfl ro_int
theorem e_ex_reasonOf_72 {d : Nat} (hd : 3 ≤ d) (l0 : Nat) (l1 : Int32) (l2 : Int32) (l3 : Nat) (M : Mem) (r : Int32 × Mem) (h : f_ex_reasonOf_72 l0 l1 l2 l3 M = some r) : EV d 206 72 [some (.ref l0), some (.int l1), some (.int l2), some (.ref l3), none] [] M (some (.int r.1), r.2) := by
  unfold f_ex_reasonOf_72 at h
  refine EV_stq mx_206 (pc' := 73) (L' := [some (.ref l0), some (.int l1), some (.int l2), some (.ref l3), none]) (st' := [.int l1]) bo_206_72_c0ffc8 rfl ?_
  refine h_ne h (fun h hc => ?_) (fun h hc => ?_)
  · refine r_ifF mx_206 li_206_73 (by decide) hc ?_
    refine EV_stq mx_206 (pc' := 77) (L' := [some (.ref l0), some (.int l1), some (.int l2), some (.ref l3), none]) (st' := [.ref l0]) bo_206_76_1522cc rfl ?_
    refine r_gA mx_206 li_206_77 fd_12_18 rfl h (fun a5 h => ?_)
    refine r_gI mx_206 li_206_80 fd_12_63 ⟨by decide, by decide⟩ h (fun v6 h => ?_)
    refine EV_stq mx_206 (pc' := 84) (L' := [some (.ref l0), some (.int l1), some (.int l2), some (.ref l3), none]) (st' := [.ref l0, .int v6]) bo_206_83_dbc641 rfl ?_
    refine r_gA mx_206 li_206_84 fd_12_18 rfl h (fun a7 h => ?_)
    refine r_gA mx_206 li_206_87 fd_12_66 rfl h (fun a8 h => ?_)
    refine r_gI mx_206 li_206_90 fd_12_70 ⟨by decide, by decide⟩ h (fun v9 h => ?_)
    refine h_ge h (fun h hc => ?_) (fun h hc => ?_)
    · refine r_icT mx_206 li_206_93 (by decide) rfl hc ?_
      refine EV_stq mx_206 (pc' := 101) (L' := [some (.ref l0), some (.int l1), some (.int l2), some (.ref l3), none]) (st' := [.int (4 : Int32)]) bo_206_100_5dd146 rfl ?_
      obtain rfl := Option.some.inj h
      exact r_ret mx_206 li_206_101 rfl ro_int
    · refine r_icF mx_206 li_206_93 (by decide) hc ?_
      refine EV_stq mx_206 (pc' := 101) (L' := [some (.ref l0), some (.int l1), some (.int l2), some (.ref l3), none]) (st' := [.int (5 : Int32)]) bo_206_96_31fd26 rfl ?_
      obtain rfl := Option.some.inj h
      exact r_ret mx_206 li_206_101 rfl ro_int
  · refine r_ifT mx_206 li_206_73 (by decide) rfl hc ?_
    refine EV_stq mx_206 (pc' := 103) (L' := [some (.ref l0), some (.int l1), some (.int l2), some (.ref l3), none]) (st' := [.ref l0]) bo_206_102_097908 rfl ?_
    refine r_gA mx_206 li_206_103 fd_12_18 rfl h (fun a1 h => ?_)
    refine EV_stq mx_206 (pc' := 108) (L' := [some (.ref l0), some (.int l1), some (.int l2), some (.ref l3), none]) (st' := [.int l2, .int l1, .ref a1]) bo_206_106_9c4b38 rfl ?_
    refine h_ck h (fun hc h => ?_)
    refine h_cI h (fun v3 M2 e h => ?_)
    refine EV_call [.ref a1, .int l1, .int l2] [] mx_206 li_206_108 rfl rfl si_12_75 rfl (by decide) (by decide) (by omega) ma_116 rfl (Nat.le_of_ble_eq_true rfl) rfl rfl (Nat.le_of_ble_eq_true rfl) (rc_1 mt_at_116 rfl rfl (by decide) hc) (e_sm_inputToTake (by omega) a1 l1 l2 M _ e) ?_
    show EV d 206 111 [some (.ref l0), some (.int l1), some (.int l2), some (.ref l3), none] [.int v3] M2 _
    refine h_lt h (fun h hc => ?_) (fun h hc => ?_)
    · refine r_ifT mx_206 li_206_111 (by decide) rfl hc ?_
      refine EV_stq mx_206 (pc' := 117) (L' := [some (.ref l0), some (.int l1), some (.int l2), some (.ref l3), none]) (st' := [.ref l3]) bo_206_116_8dd5ec rfl ?_
      refine r_gI mx_206 li_206_117 fd_12_78 ⟨by decide, by decide⟩ h (fun v4 h => ?_)
      refine h_eq h (fun h hc => ?_) (fun h hc => ?_)
      · refine r_ifT mx_206 li_206_120 (by decide) rfl hc ?_
        refine EV_stq mx_206 (pc' := 128) (L' := [some (.ref l0), some (.int l1), some (.int l2), some (.ref l3), none]) (st' := [.int (4 : Int32)]) bo_206_127_244a0d rfl ?_
        obtain rfl := Option.some.inj h
        exact r_ret mx_206 li_206_128 rfl ro_int
      · refine r_ifF mx_206 li_206_120 (by decide) hc ?_
        refine EV_stq mx_206 (pc' := 128) (L' := [some (.ref l0), some (.int l1), some (.int l2), some (.ref l3), none]) (st' := [.int (3 : Int32)]) bo_206_123_30aefa rfl ?_
        obtain rfl := Option.some.inj h
        exact r_ret mx_206 li_206_128 rfl ro_int
    · refine r_ifF mx_206 li_206_111 (by decide) hc ?_
      refine EV_stq mx_206 (pc' := 115) (L' := [some (.ref l0), some (.int l1), some (.int l2), some (.ref l3), none]) (st' := [.int (5 : Int32)]) bo_206_114_28d19b rfl ?_
      obtain rfl := Option.some.inj h
      exact r_ret mx_206 li_206_115 rfl ro_int
theorem e_ex_reasonOf_51 {d : Nat} (hd : 3 ≤ d) (l0 : Nat) (l1 : Int32) (l2 : Int32) (l3 : Nat) (M : Mem) (r : Int32 × Mem) (h : f_ex_reasonOf_51 l0 l1 l2 l3 M = some r) : EV d 206 51 [some (.ref l0), some (.int l1), some (.int l2), some (.ref l3), none] [] M (some (.int r.1), r.2) := by
  unfold f_ex_reasonOf_51 at h
  refine EV_stq mx_206 (pc' := 52) (L' := [some (.ref l0), some (.int l1), some (.int l2), some (.ref l3), none]) (st' := [.ref l3]) bo_206_51_93c172 rfl ?_
  refine r_gI mx_206 li_206_52 fd_12_54 ⟨by decide, by decide⟩ h (fun v1 h => ?_)
  refine h_eq h (fun h hc => ?_) (fun h hc => ?_)
  · refine r_ifT mx_206 li_206_55 (by decide) rfl hc ?_
    exact e_ex_reasonOf_72 hd l0 l1 l2 l3 M r h
  · refine r_ifF mx_206 li_206_55 (by decide) hc ?_
    refine EV_stq mx_206 (pc' := 59) (L' := [some (.ref l0), some (.int l1), some (.int l2), some (.ref l3), none]) (st' := [.ref l0]) bo_206_58_df393a rfl ?_
    refine r_gA mx_206 li_206_59 fd_12_18 rfl h (fun a2 h => ?_)
    refine EV_stq mx_206 (pc' := 64) (L' := [some (.ref l0), some (.int l1), some (.int l2), some (.ref l3), none]) (st' := [.int l2, .int l1, .ref a2]) bo_206_62_322124 rfl ?_
    refine h_ck h (fun hc h => ?_)
    refine h_cI h (fun v4 M3 e h => ?_)
    refine EV_call [.ref a2, .int l1, .int l2] [] mx_206 li_206_64 rfl rfl si_12_60 rfl (by decide) (by decide) (by omega) ma_111 rfl (Nat.le_of_ble_eq_true rfl) rfl rfl (Nat.le_of_ble_eq_true rfl) (rc_1 mt_at_111 rfl rfl (by decide) hc) (e_sm_targetWithoutRoom (by omega) a2 l1 l2 M _ e) ?_
    show EV d 206 67 [some (.ref l0), some (.int l1), some (.int l2), some (.ref l3), none] [.int v4] M3 _
    refine h_lt h (fun h hc => ?_) (fun h hc => ?_)
    · refine r_ifT mx_206 li_206_67 (by decide) rfl hc ?_
      exact e_ex_reasonOf_72 hd l0 l1 l2 l3 M3 r h
    · refine r_ifF mx_206 li_206_67 (by decide) hc ?_
      refine EV_stq mx_206 (pc' := 71) (L' := [some (.ref l0), some (.int l1), some (.int l2), some (.ref l3), none]) (st' := [.int (2 : Int32)]) bo_206_70_a81b5d rfl ?_
      obtain rfl := Option.some.inj h
      exact r_ret mx_206 li_206_71 rfl ro_int
theorem e_ex_reasonOf {d : Nat} (hd : 3 ≤ d) (p0 : Nat) (p1 : Int32) (p2 : Int32) (M : Mem) (r : Int32 × Mem) (h : f_ex_reasonOf p0 p1 p2 M = some r) : EV d 206 0 (entL 5 [.ref p0, .int p1, .int p2]) [] M (some (.int r.1), r.2) := by
  show EV d 206 0 [some (.ref p0), some (.int p1), some (.int p2), none, none] [] M _
  unfold f_ex_reasonOf at h
  refine EV_stq mx_206 (pc' := 1) (L' := [some (.ref p0), some (.int p1), some (.int p2), none, none]) (st' := [.ref p0]) bo_206_0_8d5162 rfl ?_
  refine r_gA mx_206 li_206_1 fd_12_18 rfl h (fun a1 h => ?_)
  refine EV_stq mx_206 (pc' := 6) (L' := [some (.ref p0), some (.int p1), some (.int p2), none, none]) (st' := [.int p2, .int p1, .ref a1]) bo_206_4_40e659 rfl ?_
  refine h_ck h (fun hc h => ?_)
  refine h_cR h (fun o3 M2 e h => ?_)
  refine EV_call [.ref a1, .int p1, .int p2] [] mx_206 li_206_6 rfl rfl si_12_34 rfl (by decide) (by decide) (by omega) ma_91 rfl (Nat.le_of_ble_eq_true rfl) rfl rfl (Nat.le_of_ble_eq_true rfl) (rc_1 mt_at_91 rfl rfl (by decide) hc) (e_sm_instanceAt (by omega) a1 p1 p2 M _ e) ?_
  refine h_onR (G := fun o => EV d 206 9 [some (.ref p0), some (.int p1), some (.int p2), none, none] [rfv o] M2 _) h (fun h => ?_) (fun a4 h => ?_)
  · refine EV_stq mx_206 (pc' := 15) (L' := [some (.ref p0), some (.int p1), some (.int p2), some (.null), none]) (st' := [.int (5 : Int32)]) bo_206_9_681304 rfl ?_
    obtain rfl := Option.some.inj h
    exact r_ret mx_206 li_206_15 rfl ro_int
  · refine EV_stq mx_206 (pc' := 17) (L' := [some (.ref p0), some (.int p1), some (.int p2), some (.ref a4), none]) (st' := [.ref p0]) bo_206_9_a5256b rfl ?_
    refine r_gA mx_206 li_206_17 fd_12_18 rfl h (fun a5 h => ?_)
    refine EV_stq mx_206 (pc' := 23) (L' := [some (.ref p0), some (.int p1), some (.int p2), some (.ref a4), none]) (st' := [.ref p0, .int p2, .int p1, .ref a5]) bo_206_20_638673 rfl ?_
    refine r_gA mx_206 li_206_23 fd_12_18 rfl h (fun a6 h => ?_)
    refine EV_stq mx_206 (pc' := 28) (L' := [some (.ref p0), some (.int p1), some (.int p2), some (.ref a4), none]) (st' := [.ref a4, .int p1, .ref a6, .int p2, .int p1, .ref a5]) bo_206_26_539da0 rfl ?_
    refine h_ck h (fun hc h => ?_)
    refine h_cI h (fun v8 M7 e h => ?_)
    refine EV_call [.ref a6, .int p1, .ref a4] [.int p2, .int p1, .ref a5] mx_206 li_206_28 rfl rfl si_12_40 rfl (by decide) (by decide) (by omega) ma_102 rfl (Nat.le_of_ble_eq_true rfl) rfl rfl (Nat.le_of_ble_eq_true rfl) (rc_1 mt_at_102 rfl rfl (by decide) hc) (e_sm_targetOf (by omega) a6 p1 a4 M2 _ e) ?_
    show EV d 206 31 [some (.ref p0), some (.int p1), some (.int p2), some (.ref a4), none] [.int v8, .int p2, .int p1, .ref a5] M7 _
    refine h_ck h (fun hc h => ?_)
    refine h_cR h (fun o10 M9 e h => ?_)
    refine EV_call [.ref a5, .int p1, .int p2, .int v8] [] mx_206 li_206_31 rfl rfl si_12_44 rfl (by decide) (by decide) (by omega) ma_103 rfl (Nat.le_of_ble_eq_true rfl) rfl rfl (Nat.le_of_ble_eq_true rfl) (rc_1 mt_at_103 rfl rfl (by decide) hc) (e_sm_channelAt (by omega) a5 p1 p2 v8 M7 _ e) ?_
    refine h_onR (G := fun o => EV d 206 34 [some (.ref p0), some (.int p1), some (.int p2), some (.ref a4), none] [rfv o] M9 _) h (fun h => ?_) (fun a11 h => ?_)
    · refine EV_stq mx_206 (pc' := 51) (L' := [some (.ref p0), some (.int p1), some (.int p2), some (.ref a4), some (.null)]) (st' := []) bo_206_34_43447d rfl ?_
      refine EV_forget (A := [some (.ref p0), some (.int p1), some (.int p2), some (.ref a4), none]) (lsub_of _ _ ⟨Or.inr rfl, ⟨Or.inr rfl, ⟨Or.inr rfl, ⟨Or.inr rfl, ⟨Or.inl rfl, trivial⟩⟩⟩⟩⟩) ?_
      exact e_ex_reasonOf_51 hd p0 p1 p2 a4 M9 r h
    · refine EV_stq mx_206 (pc' := 43) (L' := [some (.ref p0), some (.int p1), some (.int p2), some (.ref a4), some (.ref a11)]) (st' := [.ref a11]) bo_206_34_464168 rfl ?_
      refine h_ck h (fun hc h => ?_)
      refine h_cI h (fun v13 M12 e h => ?_)
      refine EV_call [.ref a11] [] mx_206 li_206_43 rfl rfl si_12_48 rfl (by decide) (by decide) (by omega) ma_104 rfl (Nat.le_of_ble_eq_true rfl) rfl rfl (Nat.le_of_ble_eq_true rfl) (rc_1 mt_at_104 rfl rfl (by decide) hc) (e_ch_takesRecord (by omega) a11 M9 _ e) ?_
      show EV d 206 46 [some (.ref p0), some (.int p1), some (.int p2), some (.ref a4), some (.ref a11)] [.int v13] M12 _
      refine h_ne h (fun h hc => ?_) (fun h hc => ?_)
      · refine r_ifF mx_206 li_206_46 (by decide) hc ?_
        refine EV_stq mx_206 (pc' := 50) (L' := [some (.ref p0), some (.int p1), some (.int p2), some (.ref a4), some (.ref a11)]) (st' := [.int (1 : Int32)]) bo_206_49_e052b7 rfl ?_
        obtain rfl := Option.some.inj h
        exact r_ret mx_206 li_206_50 rfl ro_int
      · refine r_ifT mx_206 li_206_46 (by decide) rfl hc ?_
        refine EV_forget (A := [some (.ref p0), some (.int p1), some (.int p2), some (.ref a4), none]) (lsub_of _ _ ⟨Or.inr rfl, ⟨Or.inr rfl, ⟨Or.inr rfl, ⟨Or.inr rfl, ⟨Or.inl rfl, trivial⟩⟩⟩⟩⟩) ?_
        exact e_ex_reasonOf_51 hd p0 p1 p2 a4 M12 r h
theorem e_ex_lowestRunning_2 {d : Nat} (hd : 0 ≤ d) : ∀ (n : Nat) (l0 : Int32) (l1 : Int32) (M : Mem) (r : Int32 × Mem), f_ex_lowestRunning_2 n l0 l1 M = some r → EV d 207 2 [some (.int l0), some (.int l1)] [] M (some (.int r.1), r.2) := by
  intro n
  induction n with
  | zero => intro l0 l1 M r h; cases h
  | succ n ih =>
    intro l0 l1 M r h
    unfold f_ex_lowestRunning_2 at h
    refine EV_stq mx_207 (pc' := 4) (L' := [some (.int l0), some (.int l1)]) (st' := [.int (3 : Int32), .int l1]) bo_207_2_d916f9 rfl ?_
    refine h_ge h (fun h hc => ?_) (fun h hc => ?_)
    · refine r_icT mx_207 li_207_4 (by decide) rfl hc ?_
      refine EV_stq mx_207 (pc' := 24) (L' := [some (.int l0), some (.int l1)]) (st' := [.int (-1 : Int32)]) bo_207_23_b37e12 rfl ?_
      obtain rfl := Option.some.inj h
      exact r_ret mx_207 li_207_24 rfl ro_int
    · refine r_icF mx_207 li_207_4 (by decide) hc ?_
      refine EV_stq mx_207 (pc' := 12) (L' := [some (.int l0), some (.int l1)]) (st' := [.int ((l0 >>> (l1 &&& 31)) &&& (1 : Int32))]) bo_207_7_e08900 rfl ?_
      refine h_ne h (fun h hc => ?_) (fun h hc => ?_)
      · refine r_ifF mx_207 li_207_12 (by decide) hc ?_
        refine EV_stq mx_207 (pc' := 16) (L' := [some (.int l0), some (.int l1)]) (st' := [.int l1]) bo_207_15_be4250 rfl ?_
        obtain rfl := Option.some.inj h
        exact r_ret mx_207 li_207_16 rfl ro_int
      · refine r_ifT mx_207 li_207_12 (by decide) rfl hc ?_
        refine EV_stq mx_207 (pc' := 2) (L' := [some (.int l0), some (.int (l1 + (1 : Int32)))]) (st' := []) bo_207_17_3601cd rfl ?_
        exact ih l0 (l1 + (1 : Int32)) M r h
theorem e_ex_lowestRunning {d : Nat} (hd : 0 ≤ d) (p0 : Int32) (M : Mem) (r : Int32 × Mem) (h : f_ex_lowestRunning p0 M = some r) : EV d 207 0 (entL 2 [.int p0]) [] M (some (.int r.1), r.2) := by
  show EV d 207 0 [some (.int p0), none] [] M _
  unfold f_ex_lowestRunning at h
  refine EV_stq mx_207 (pc' := 2) (L' := [some (.int p0), some (.int (0 : Int32))]) (st' := []) bo_207_0_264884 rfl ?_
  exact e_ex_lowestRunning_2 hd FU p0 (0 : Int32) M r h
theorem e_ex_awaited {d : Nat} (hd : 3 ≤ d) (p0 : Nat) (p1 : Int32) (p2 : Int32) (p3 : Int32) (M : Mem) (r : Int32 × Mem) (h : f_ex_awaited p0 p1 p2 p3 M = some r) : EV d 208 0 (entL 5 [.ref p0, .int p1, .int p2, .int p3]) [] M (some (.int r.1), r.2) := by
  show EV d 208 0 [some (.ref p0), some (.int p1), some (.int p2), some (.int p3), none] [] M _
  unfold f_ex_awaited at h
  refine EV_stq mx_208 (pc' := 1) (L' := [some (.ref p0), some (.int p1), some (.int p2), some (.int p3), none]) (st' := [.ref p0]) bo_208_0_8d5162 rfl ?_
  refine r_gA mx_208 li_208_1 fd_12_18 rfl h (fun a1 h => ?_)
  refine EV_stq mx_208 (pc' := 6) (L' := [some (.ref p0), some (.int p1), some (.int p2), some (.int p3), none]) (st' := [.int p2, .int p1, .ref a1]) bo_208_4_40e659 rfl ?_
  refine h_ck h (fun hc h => ?_)
  refine h_cR h (fun o3 M2 e h => ?_)
  refine EV_call [.ref a1, .int p1, .int p2] [] mx_208 li_208_6 rfl rfl si_12_34 rfl (by decide) (by decide) (by omega) ma_91 rfl (Nat.le_of_ble_eq_true rfl) rfl rfl (Nat.le_of_ble_eq_true rfl) (rc_1 mt_at_91 rfl rfl (by decide) hc) (e_sm_instanceAt (by omega) a1 p1 p2 M _ e) ?_
  refine h_onR (G := fun o => EV d 208 9 [some (.ref p0), some (.int p1), some (.int p2), some (.int p3), none] [rfv o] M2 _) h (fun h => ?_) (fun a4 h => ?_)
  · refine EV_stq mx_208 (pc' := 17) (L' := [some (.ref p0), some (.int p1), some (.int p2), some (.int p3), some (.null)]) (st' := [.int (-1 : Int32)]) bo_208_9_9e6927 rfl ?_
    obtain rfl := Option.some.inj h
    exact r_ret mx_208 li_208_17 rfl ro_int
  · refine EV_stq mx_208 (pc' := 19) (L' := [some (.ref p0), some (.int p1), some (.int p2), some (.int p3), some (.ref a4)]) (st' := [.int p3]) bo_208_9_dc76f3 rfl ?_
    refine h_sw h (fun hh e0 => ?_) (fun h e0 => ?_)
    · clear h
      subst e0
      have h := hh
      clear hh
      refine r_ls (off := 25) mx_208 li_208_19 (by decide) (by decide +kernel) (by decide) rfl ?_
      refine EV_stq mx_208 (pc' := 45) (L' := [some (.ref p0), some (.int p1), some (.int p2), some (.int (1 : Int32)), some (.ref a4)]) (st' := [.ref p0]) bo_208_44_56c0aa rfl ?_
      refine r_gA mx_208 li_208_45 fd_12_18 rfl h (fun a5 h => ?_)
      refine EV_stq mx_208 (pc' := 51) (L' := [some (.ref p0), some (.int p1), some (.int p2), some (.int (1 : Int32)), some (.ref a4)]) (st' := [.ref a4, .int p1, .ref a5]) bo_208_48_3a676f rfl ?_
      refine h_ck h (fun hc h => ?_)
      refine h_cI h (fun v7 M6 e h => ?_)
      refine EV_call [.ref a5, .int p1, .ref a4] [] mx_208 li_208_51 rfl rfl si_12_40 rfl (by decide) (by decide) (by omega) ma_102 rfl (Nat.le_of_ble_eq_true rfl) rfl rfl (Nat.le_of_ble_eq_true rfl) (rc_1 mt_at_102 rfl rfl (by decide) hc) (e_sm_targetOf (by omega) a5 p1 a4 M2 _ e) ?_
      show EV d 208 54 [some (.ref p0), some (.int p1), some (.int p2), some (.int (1 : Int32)), some (.ref a4)] [.int v7] M6 _
      obtain rfl := Option.some.inj h
      exact r_ret mx_208 li_208_54 rfl ro_int
    refine h_sw h (fun hh e1 => ?_) (fun h e1 => ?_)
    · clear h
      subst e1
      have h := hh
      clear hh
      refine r_ls (off := 36) mx_208 li_208_19 (by decide) (by decide +kernel) (by decide) rfl ?_
      refine EV_stq mx_208 (pc' := 56) (L' := [some (.ref p0), some (.int p1), some (.int p2), some (.int (2 : Int32)), some (.ref a4)]) (st' := [.ref p0]) bo_208_55_bd1207 rfl ?_
      refine r_gA mx_208 li_208_56 fd_12_18 rfl h (fun a8 h => ?_)
      refine EV_stq mx_208 (pc' := 61) (L' := [some (.ref p0), some (.int p1), some (.int p2), some (.int (2 : Int32)), some (.ref a4)]) (st' := [.int p2, .int p1, .ref a8]) bo_208_59_d0b94e rfl ?_
      refine h_ck h (fun hc h => ?_)
      refine h_cI h (fun v10 M9 e h => ?_)
      refine EV_call [.ref a8, .int p1, .int p2] [] mx_208 li_208_61 rfl rfl si_12_60 rfl (by decide) (by decide) (by omega) ma_111 rfl (Nat.le_of_ble_eq_true rfl) rfl rfl (Nat.le_of_ble_eq_true rfl) (rc_1 mt_at_111 rfl rfl (by decide) hc) (e_sm_targetWithoutRoom (by omega) a8 p1 p2 M2 _ e) ?_
      show EV d 208 64 [some (.ref p0), some (.int p1), some (.int p2), some (.int (2 : Int32)), some (.ref a4)] [.int v10] M9 _
      obtain rfl := Option.some.inj h
      exact r_ret mx_208 li_208_64 rfl ro_int
    refine r_ls (off := 46) mx_208 li_208_19 (by decide) (by show Op.lookupswitch.offset [(1, 25), (2, 36)] _ _ = _; rw [lv_osw e0 (by decide), lv_osw e1 (by decide)]; rfl) (by decide) rfl ?_
    refine EV_stq mx_208 (pc' := 67) (L' := [some (.ref p0), some (.int p1), some (.int p2), some (.int p3), some (.ref a4)]) (st' := [.ref a4]) bo_208_65_a2326b rfl ?_
    refine r_gI mx_208 li_208_67 fd_12_78 ⟨by decide, by decide⟩ h (fun v11 h => ?_)
    refine h_cI h (fun v13 M12 e h => ?_)
    refine EV_call [.int v11] [] mx_208 li_208_70 rfl rfl si_12_81 rfl (by decide) (by decide) (by omega) ma_207 rfl (Nat.le_of_ble_eq_true rfl) rfl rfl (Nat.le_of_ble_eq_true rfl) rfl (e_ex_lowestRunning (by omega) v11 M2 _ e) ?_
    show EV d 208 73 [some (.ref p0), some (.int p1), some (.int p2), some (.int p3), some (.ref a4)] [.int v13] M12 _
    obtain rfl := Option.some.inj h
    exact r_ret mx_208 li_208_73 rfl ro_int
theorem e_ex_begin_103 {d : Nat} (hd : 4 ≤ d) (l0 : Nat) (M : Mem) (r : Int32 × Mem) (h : f_ex_begin_103 l0 M = some r) : EV d 209 103 [some (.ref l0), none, none, none, none, none, none] [] M (some (.int r.1), r.2) := by
  unfold f_ex_begin_103 at h
  refine EV_stq mx_209 (pc' := 104) (L' := [some (.ref l0), none, none, none, none, none, none]) (st' := [.ref l0]) bo_209_103_98f00a rfl ?_
  refine r_gI mx_209 li_209_104 fd_12_26 ⟨by decide, by decide⟩ h (fun v1 h => ?_)
  obtain rfl := Option.some.inj h
  exact r_ret mx_209 li_209_107 rfl ro_int
theorem e_ex_begin_96 {d : Nat} (hd : 4 ≤ d) (k8 : Nat → Int32 → Int32 → Int32 → Mem → Option (Int32 × Mem)) (hk8 : ∀ l0 l3 l4 l5 M r, k8 l0 l3 l4 l5 M = some r → EV d 209 8 [some (.ref l0), none, none, some (.int l3), some (.int l4), some (.int l5), none] [] M (some (.int r.1), r.2)) (l0 : Nat) (l4 : Int32) (l5 : Int32) (s0 : Int32) (M : Mem) (r : Int32 × Mem) (h : f_ex_begin_96 k8 l0 l4 l5 s0 M = some r) : EV d 209 96 [some (.ref l0), none, none, none, some (.int l4), some (.int l5), none] [.int s0] M (some (.int r.1), r.2) := by
  unfold f_ex_begin_96 at h
  refine EV_stq mx_209 (pc' := 8) (L' := [some (.ref l0), none, none, some (.int s0), some (.int l4), some (.int (l5 + (1 : Int32))), none]) (st' := []) bo_209_96_545cdb rfl ?_
  exact hk8 l0 s0 l4 (l5 + (1 : Int32)) M r h
theorem e_ex_begin_8 {d : Nat} (hd : 4 ≤ d) : ∀ (n : Nat) (l0 : Nat) (l3 : Int32) (l4 : Int32) (l5 : Int32) (M : Mem) (r : Int32 × Mem), f_ex_begin_8 n l0 l3 l4 l5 M = some r → EV d 209 8 [some (.ref l0), none, none, some (.int l3), some (.int l4), some (.int l5), none] [] M (some (.int r.1), r.2) := by
  intro n
  induction n with
  | zero => intro l0 l3 l4 l5 M r h; cases h
  | succ n ih =>
    intro l0 l3 l4 l5 M r h
    unfold f_ex_begin_8 at h
    refine EV_stq mx_209 (pc' := 12) (L' := [some (.ref l0), none, none, some (.int l3), some (.int l4), some (.int l5), none]) (st' := [.int (8 : Int32), .int l5]) bo_209_8_61d989 rfl ?_
    refine h_ge h (fun h hc => ?_) (fun h hc => ?_)
    · refine r_icT mx_209 li_209_12 (by decide) rfl hc ?_
      refine EV_forget (A := [some (.ref l0), none, none, none, none, none, none]) (lsub_of _ _ ⟨Or.inr rfl, ⟨Or.inl rfl, ⟨Or.inl rfl, ⟨Or.inl rfl, ⟨Or.inl rfl, ⟨Or.inl rfl, ⟨Or.inl rfl, trivial⟩⟩⟩⟩⟩⟩⟩) ?_
      exact e_ex_begin_103 hd l0 M r h
    · refine r_icF mx_209 li_209_12 (by decide) hc ?_
      refine EV_stq mx_209 (pc' := 19) (L' := [some (.ref l0), none, none, some (.int l3), some (.int l4), some (.int l5), none]) (st' := [.int l4, .int l3, .ref l0]) bo_209_15_f418fa rfl ?_
      refine h_ck h (fun hc h => ?_)
      refine h_cI h (fun v2 M1 e h => ?_)
      refine EV_call [.ref l0, .int l3, .int l4] [] mx_209 li_209_19 rfl rfl si_12_22 rfl (by decide) (by decide) (by omega) ma_206 rfl (Nat.le_of_ble_eq_true rfl) rfl rfl (Nat.le_of_ble_eq_true rfl) (rc_1 mt_at_206 rfl rfl (by decide) hc) (e_ex_reasonOf (by omega) l0 l3 l4 M _ e) ?_
      show EV d 209 22 [some (.ref l0), none, none, some (.int l3), some (.int l4), some (.int l5), none] [.int v2] M1 _
      refine EV_stq mx_209 (pc' := 25) (L' := [some (.ref l0), none, none, some (.int l3), some (.int l4), some (.int l5), some (.int v2)]) (st' := [.ref l0]) bo_209_22_58f8c5 rfl ?_
      refine r_gA mx_209 li_209_25 fd_12_9 rfl h (fun a3 h => ?_)
      refine EV_stq mx_209 (pc' := 37) (L' := [some (.ref l0), none, none, some (.int l3), some (.int l4), some (.int l5), some (.int v2)]) (st' := [.int (((10 : Int32) * l3) + l4), .int l5, .ref a3]) bo_209_28_05679a rfl ?_
      refine r_sI mx_209 li_209_37 h (fun M4 h => ?_)
      refine EV_stq mx_209 (pc' := 39) (L' := [some (.ref l0), none, none, some (.int l3), some (.int l4), some (.int l5), some (.int v2)]) (st' := [.ref l0]) bo_209_38_c8c763 rfl ?_
      refine r_gA mx_209 li_209_39 fd_12_15 rfl h (fun a5 h => ?_)
      refine EV_stq mx_209 (pc' := 46) (L' := [some (.ref l0), none, none, some (.int l3), some (.int l4), some (.int l5), some (.int v2)]) (st' := [.int v2, .int l5, .ref a5]) bo_209_42_9a2b64 rfl ?_
      refine r_sI mx_209 li_209_46 h (fun M6 h => ?_)
      refine EV_stq mx_209 (pc' := 52) (L' := [some (.ref l0), none, none, some (.int l3), some (.int l4), some (.int l5), some (.int v2)]) (st' := [.int (l5 + (1 : Int32)), .ref l0]) bo_209_47_194f04 rfl ?_
      refine r_pI mx_209 li_209_52 fd_12_26 (Or.inl rfl) rfl h (fun M7 h => ?_)
      refine EV_stq mx_209 (pc' := 58) (L' := [some (.ref l0), none, none, some (.int l3), some (.int l4), some (.int l5), some (.int v2)]) (st' := [.int (4 : Int32), .int v2]) bo_209_55_6a6cc2 rfl ?_
      refine h_eq h (fun h hc => ?_) (fun h hc => ?_)
      · refine r_icT mx_209 li_209_58 (by decide) rfl hc ?_
        refine EV_forget (A := [some (.ref l0), none, none, none, none, none, none]) (lsub_of _ _ ⟨Or.inr rfl, ⟨Or.inl rfl, ⟨Or.inl rfl, ⟨Or.inl rfl, ⟨Or.inl rfl, ⟨Or.inl rfl, ⟨Or.inl rfl, trivial⟩⟩⟩⟩⟩⟩⟩) ?_
        exact e_ex_begin_103 hd l0 M7 r h
      · refine r_icF mx_209 li_209_58 (by decide) hc ?_
        refine EV_stq mx_209 (pc' := 64) (L' := [some (.ref l0), none, none, some (.int l3), some (.int l4), some (.int l5), some (.int v2)]) (st' := [.int (5 : Int32), .int v2]) bo_209_61_c66632 rfl ?_
        refine h_ne h (fun h hc => ?_) (fun h hc => ?_)
        · refine r_icF mx_209 li_209_64 (by decide) hc ?_
          refine EV_stq mx_209 (pc' := 103) (L' := [some (.ref l0), none, none, some (.int l3), some (.int l4), some (.int l5), some (.int v2)]) (st' := []) bo_209_67_ded3a4 rfl ?_
          refine EV_forget (A := [some (.ref l0), none, none, none, none, none, none]) (lsub_of _ _ ⟨Or.inr rfl, ⟨Or.inl rfl, ⟨Or.inl rfl, ⟨Or.inl rfl, ⟨Or.inl rfl, ⟨Or.inl rfl, ⟨Or.inl rfl, trivial⟩⟩⟩⟩⟩⟩⟩) ?_
          exact e_ex_begin_103 hd l0 M7 r h
        · refine r_icT mx_209 li_209_64 (by decide) rfl hc ?_
          refine EV_stq mx_209 (pc' := 76) (L' := [some (.ref l0), none, none, some (.int l3), some (.int l4), some (.int l5), some (.int v2)]) (st' := [.int v2, .int l4, .int l3, .ref l0]) bo_209_70_36d513 rfl ?_
          refine h_ck h (fun hc h => ?_)
          refine h_cI h (fun v9 M8 e h => ?_)
          refine EV_call [.ref l0, .int l3, .int l4, .int v2] [] mx_209 li_209_76 rfl rfl si_12_30 rfl (by decide) (by decide) (by omega) ma_208 rfl (Nat.le_of_ble_eq_true rfl) rfl rfl (Nat.le_of_ble_eq_true rfl) (rc_1 mt_at_208 rfl rfl (by decide) hc) (e_ex_awaited (by omega) l0 l3 l4 v2 M7 _ e) ?_
          show EV d 209 79 [some (.ref l0), none, none, some (.int l3), some (.int l4), some (.int l5), some (.int v2)] [.int v9] M8 _
          refine EV_stq mx_209 (pc' := 84) (L' := [some (.ref l0), none, none, some (.int l3), some (.int v9), some (.int l5), some (.int v2)]) (st' := [.int (3 : Int32), .int v2]) bo_209_79_78a407 rfl ?_
          refine h_ne h (fun h hc => ?_) (fun h hc => ?_)
          · refine r_icF mx_209 li_209_84 (by decide) hc ?_
            refine EV_stq mx_209 (pc' := 96) (L' := [some (.ref l0), none, none, some (.int l3), some (.int v9), some (.int l5), some (.int v2)]) (st' := [.int (l3 - (1 : Int32))]) bo_209_87_3a51a7 rfl ?_
            refine EV_forget (A := [some (.ref l0), none, none, none, some (.int v9), some (.int l5), none]) (lsub_of _ _ ⟨Or.inr rfl, ⟨Or.inl rfl, ⟨Or.inl rfl, ⟨Or.inl rfl, ⟨Or.inr rfl, ⟨Or.inr rfl, ⟨Or.inl rfl, trivial⟩⟩⟩⟩⟩⟩⟩) ?_
            exact e_ex_begin_96 hd _ ih l0 v9 l5 (l3 - (1 : Int32)) M8 r h
          · refine r_icT mx_209 li_209_84 (by decide) rfl hc ?_
            refine EV_stq mx_209 (pc' := 96) (L' := [some (.ref l0), none, none, some (.int l3), some (.int v9), some (.int l5), some (.int v2)]) (st' := [.int (l3 + (1 : Int32))]) bo_209_93_1d8163 rfl ?_
            refine EV_forget (A := [some (.ref l0), none, none, none, some (.int v9), some (.int l5), none]) (lsub_of _ _ ⟨Or.inr rfl, ⟨Or.inl rfl, ⟨Or.inl rfl, ⟨Or.inl rfl, ⟨Or.inr rfl, ⟨Or.inr rfl, ⟨Or.inl rfl, trivial⟩⟩⟩⟩⟩⟩⟩) ?_
            exact e_ex_begin_96 hd _ ih l0 v9 l5 (l3 + (1 : Int32)) M8 r h
theorem e_ex_begin {d : Nat} (hd : 4 ≤ d) (p0 : Nat) (p1 : Int32) (p2 : Int32) (M : Mem) (r : Int32 × Mem) (h : f_ex_begin p0 p1 p2 M = some r) : EV d 209 0 (entL 7 [.ref p0, .int p1, .int p2]) [] M (some (.int r.1), r.2) := by
  show EV d 209 0 [some (.ref p0), some (.int p1), some (.int p2), none, none, none, none] [] M _
  unfold f_ex_begin at h
  refine EV_stq mx_209 (pc' := 8) (L' := [some (.ref p0), some (.int p1), some (.int p2), some (.int p1), some (.int p2), some (.int (0 : Int32)), none]) (st' := []) bo_209_0_28c51c rfl ?_
  refine EV_forget (A := [some (.ref p0), none, none, some (.int p1), some (.int p2), some (.int (0 : Int32)), none]) (lsub_of _ _ ⟨Or.inr rfl, ⟨Or.inl rfl, ⟨Or.inl rfl, ⟨Or.inr rfl, ⟨Or.inr rfl, ⟨Or.inr rfl, ⟨Or.inl rfl, trivial⟩⟩⟩⟩⟩⟩⟩) ?_
  exact e_ex_begin_8 hd FU p0 p1 p2 (0 : Int32) M r h
theorem e_x_explain {d : Nat} (hd : 5 ≤ d) (p0 : Nat) (p1 : Int32) (p2 : Int32) (M : Mem) (r : Int32 × Mem) (h : f_x_explain p0 p1 p2 M = some r) : EV d 210 0 (entL 3 [.ref p0, .int p1, .int p2]) [] M (some (.int r.1), r.2) := by
  show EV d 210 0 [some (.ref p0), some (.int p1), some (.int p2)] [] M _
  unfold f_x_explain at h
  refine EV_stq mx_210 (pc' := 1) (L' := [some (.ref p0), some (.int p1), some (.int p2)]) (st' := [.ref p0]) bo_210_0_8d5162 rfl ?_
  refine r_gA mx_210 li_210_1 fd_13_31 rfl h (fun a1 h => ?_)
  refine EV_stq mx_210 (pc' := 6) (L' := [some (.ref p0), some (.int p1), some (.int p2)]) (st' := [.int p2, .int p1, .ref a1]) bo_210_4_40e659 rfl ?_
  refine h_ck h (fun hc h => ?_)
  refine h_cR h (fun o3 M2 e h => ?_)
  refine EV_call [.ref a1, .int p1, .int p2] [] mx_210 li_210_6 rfl rfl si_13_184 rfl (by decide) (by decide) (by omega) ma_91 rfl (Nat.le_of_ble_eq_true rfl) rfl rfl (Nat.le_of_ble_eq_true rfl) (rc_1 mt_at_91 rfl rfl (by decide) hc) (e_sm_instanceAt (by omega) a1 p1 p2 M _ e) ?_
  refine h_onR (G := fun o => EV d 210 9 [some (.ref p0), some (.int p1), some (.int p2)] [rfv o] M2 _) h (fun h => ?_) (fun a4 h => ?_)
  · refine EV_stq mx_210 (pc' := 14) (L' := [some (.ref p0), some (.int p1), some (.int p2)]) (st' := [.int (-1000000001 : Int32)]) bo_210_9_675523 rfl ?_
    obtain rfl := Option.some.inj h
    exact r_ret mx_210 li_210_14 rfl ro_int
  · refine EV_stq mx_210 (pc' := 16) (L' := [some (.ref p0), some (.int p1), some (.int p2)]) (st' := [.ref p0]) bo_210_9_f6660b rfl ?_
    refine r_gA mx_210 li_210_16 fd_13_47 rfl h (fun a5 h => ?_)
    refine EV_stq mx_210 (pc' := 21) (L' := [some (.ref p0), some (.int p1), some (.int p2)]) (st' := [.int p2, .int p1, .ref a5]) bo_210_19_643a70 rfl ?_
    refine h_ck h (fun hc h => ?_)
    refine h_cI h (fun v7 M6 e h => ?_)
    refine EV_call [.ref a5, .int p1, .int p2] [] mx_210 li_210_21 rfl rfl si_13_262 rfl (by decide) (by decide) (by omega) ma_209 rfl (Nat.le_of_ble_eq_true rfl) rfl rfl (Nat.le_of_ble_eq_true rfl) (rc_1 mt_at_209 rfl rfl (by decide) hc) (e_ex_begin (by omega) a5 p1 p2 M2 _ e) ?_
    show EV d 210 24 [some (.ref p0), some (.int p1), some (.int p2)] [.int v7] M6 _
    obtain rfl := Option.some.inj h
    exact r_ret mx_210 li_210_24 rfl ro_int
theorem e_m_reasonOf_139 {d : Nat} (hd : 2 ≤ d) : ∀ (n : Nat) (l0 : Nat) (l3 : Int32) (M : Mem) (r : Int32 × Mem), f_m_reasonOf_139 n l0 l3 M = some r → EV d 211 139 [some (.ref l0), none, none, some (.int l3)] [] M (some (.int r.1), r.2) := by
  intro n
  induction n with
  | zero => intro l0 l3 M r h; cases h
  | succ n ih =>
    intro l0 l3 M r h
    unfold f_m_reasonOf_139 at h
    refine EV_stq mx_211 (pc' := 140) (L' := [some (.ref l0), none, none, some (.int l3)]) (st' := [.ref l0]) bo_211_139_a6de6c rfl ?_
    refine r_gA mx_211 li_211_140 fd_14_105 rfl h (fun a1 h => ?_)
    refine EV_stq mx_211 (pc' := 144) (L' := [some (.ref l0), none, none, some (.int l3)]) (st' := [.int l3, .ref a1]) bo_211_143_2be1db rfl ?_
    refine r_aI mx_211 li_211_144 h (fun v2 h => ?_)
    refine EV_stq mx_211 (pc' := 146) (L' := [some (.ref l0), none, none, some (.int l3)]) (st' := [.ref l0, .int v2]) bo_211_145_61494d rfl ?_
    refine r_gI mx_211 li_211_146 fd_14_393 ⟨by decide, by decide⟩ h (fun v3 h => ?_)
    refine EV_stq mx_211 (pc' := 153) (L' := [some (.ref l0), none, none, some (.int l3)]) (st' := [.int (1 : Int32), .int ((v2 >>> (v3 &&& 31)) &&& (1 : Int32))]) bo_211_149_3bec5e rfl ?_
    refine h_ne h (fun h hc => ?_) (fun h hc => ?_)
    · refine r_icF mx_211 li_211_153 (by decide) hc ?_
      refine EV_stq mx_211 (pc' := 158) (L' := [some (.ref l0), none, none, some (.int l3)]) (st' := [.ref l0, .ref l0]) bo_211_156_510bac rfl ?_
      refine r_gI mx_211 li_211_158 fd_14_393 ⟨by decide, by decide⟩ h (fun v4 h => ?_)
      refine EV_stq mx_211 (pc' := 163) (L' := [some (.ref l0), none, none, some (.int l3)]) (st' := [.int (v4 + (1 : Int32)), .ref l0]) bo_211_161_f80529 rfl ?_
      refine r_pI mx_211 li_211_163 fd_14_393 (Or.inl rfl) rfl h (fun M5 h => ?_)
      refine EV_stq mx_211 (pc' := 139) (L' := [some (.ref l0), none, none, some (.int l3)]) (st' := []) bo_211_166_78cd3a rfl ?_
      exact ih l0 l3 M5 r h
    · refine r_icT mx_211 li_211_153 (by decide) rfl hc ?_
      refine EV_stq mx_211 (pc' := 170) (L' := [some (.ref l0), none, none, some (.int l3)]) (st' := [.int (3 : Int32)]) bo_211_169_66a7ab rfl ?_
      obtain rfl := Option.some.inj h
      exact r_ret mx_211 li_211_170 rfl ro_int
theorem e_m_reasonOf_91 {d : Nat} (hd : 2 ≤ d) (l0 : Nat) (l1 : Int32) (l2 : Int32) (l3 : Int32) (M : Mem) (r : Int32 × Mem) (h : f_m_reasonOf_91 l0 l1 l2 l3 M = some r) : EV d 211 91 [some (.ref l0), some (.int l1), some (.int l2), some (.int l3)] [] M (some (.int r.1), r.2) := by
  unfold f_m_reasonOf_91 at h
  refine EV_stq mx_211 (pc' := 92) (L' := [some (.ref l0), some (.int l1), some (.int l2), some (.int l3)]) (st' := [.int l1]) bo_211_91_23d558 rfl ?_
  refine h_ne h (fun h hc => ?_) (fun h hc => ?_)
  · refine r_ifF mx_211 li_211_92 (by decide) hc ?_
    refine EV_stq mx_211 (pc' := 96) (L' := [some (.ref l0), some (.int l1), some (.int l2), some (.int l3)]) (st' := [.ref l0]) bo_211_95_076086 rfl ?_
    refine r_gI mx_211 li_211_96 fd_14_271 ⟨by decide, by decide⟩ h (fun v6 h => ?_)
    refine EV_stq mx_211 (pc' := 100) (L' := [some (.ref l0), some (.int l1), some (.int l2), some (.int l3)]) (st' := [.ref l0, .int v6]) bo_211_99_e6cd5c rfl ?_
    refine r_gI mx_211 li_211_100 fd_14_275 ⟨by decide, by decide⟩ h (fun v7 h => ?_)
    refine h_ne h (fun h hc => ?_) (fun h hc => ?_)
    · refine r_icF mx_211 li_211_103 (by decide) hc ?_
      refine EV_stq mx_211 (pc' := 111) (L' := [some (.ref l0), some (.int l1), some (.int l2), some (.int l3)]) (st' := [.int (4 : Int32)]) bo_211_106_9c4b38 rfl ?_
      obtain rfl := Option.some.inj h
      exact r_ret mx_211 li_211_111 rfl ro_int
    · refine r_icT mx_211 li_211_103 (by decide) rfl hc ?_
      refine EV_stq mx_211 (pc' := 111) (L' := [some (.ref l0), some (.int l1), some (.int l2), some (.int l3)]) (st' := [.int (5 : Int32)]) bo_211_110_d0a2fc rfl ?_
      obtain rfl := Option.some.inj h
      exact r_ret mx_211 li_211_111 rfl ro_int
  · refine r_ifT mx_211 li_211_92 (by decide) rfl hc ?_
    refine EV_stq mx_211 (pc' := 115) (L' := [some (.ref l0), some (.int l1), some (.int l2), some (.int l3)]) (st' := [.int l2, .int l1, .ref l0]) bo_211_112_2aac2f rfl ?_
    refine h_ck h (fun hc h => ?_)
    refine h_cI h (fun v2 M1 e h => ?_)
    refine EV_call [.ref l0, .int l1, .int l2] [] mx_211 li_211_115 rfl rfl si_14_328 rfl (by decide) (by decide) (by omega) ma_153 rfl (Nat.le_of_ble_eq_true rfl) rfl rfl (Nat.le_of_ble_eq_true rfl) (rc_1 mt_at_153 rfl rfl (by decide) hc) (e_m_ready (by omega) l0 l1 l2 M _ e) ?_
    show EV d 211 118 [some (.ref l0), some (.int l1), some (.int l2), some (.int l3)] [.int v2] M1 _
    refine h_lt h (fun h hc => ?_) (fun h hc => ?_)
    · refine r_ifT mx_211 li_211_118 (by decide) rfl hc ?_
      refine EV_stq mx_211 (pc' := 124) (L' := [some (.ref l0), some (.int l1), some (.int l2), some (.int l3)]) (st' := [.ref l0]) bo_211_123_4951b9 rfl ?_
      refine r_gA mx_211 li_211_124 fd_14_105 rfl h (fun a3 h => ?_)
      refine EV_stq mx_211 (pc' := 128) (L' := [some (.ref l0), some (.int l1), some (.int l2), some (.int l3)]) (st' := [.int l3, .ref a3]) bo_211_127_244a0d rfl ?_
      refine r_aI mx_211 li_211_128 h (fun v4 h => ?_)
      refine h_ne h (fun h hc => ?_) (fun h hc => ?_)
      · refine r_ifF mx_211 li_211_129 (by decide) hc ?_
        refine EV_stq mx_211 (pc' := 133) (L' := [some (.ref l0), some (.int l1), some (.int l2), some (.int l3)]) (st' := [.int (4 : Int32)]) bo_211_132_076fea rfl ?_
        obtain rfl := Option.some.inj h
        exact r_ret mx_211 li_211_133 rfl ro_int
      · refine r_ifT mx_211 li_211_129 (by decide) rfl hc ?_
        refine EV_stq mx_211 (pc' := 136) (L' := [some (.ref l0), some (.int l1), some (.int l2), some (.int l3)]) (st' := [.int (0 : Int32), .ref l0]) bo_211_134_216a7f rfl ?_
        refine r_pI mx_211 li_211_136 fd_14_393 (Or.inl rfl) rfl h (fun M5 h => ?_)
        refine EV_forget (A := [some (.ref l0), none, none, some (.int l3)]) (lsub_of _ _ ⟨Or.inr rfl, ⟨Or.inl rfl, ⟨Or.inl rfl, ⟨Or.inr rfl, trivial⟩⟩⟩⟩) ?_
        exact e_m_reasonOf_139 hd FU l0 l3 M5 r h
    · refine r_ifF mx_211 li_211_118 (by decide) hc ?_
      refine EV_stq mx_211 (pc' := 122) (L' := [some (.ref l0), some (.int l1), some (.int l2), some (.int l3)]) (st' := [.int (5 : Int32)]) bo_211_121_641af5 rfl ?_
      obtain rfl := Option.some.inj h
      exact r_ret mx_211 li_211_122 rfl ro_int
theorem e_m_reasonOf_61 {d : Nat} (hd : 2 ≤ d) (l0 : Nat) (l1 : Int32) (l2 : Int32) (l3 : Int32) (M : Mem) (r : Int32 × Mem) (h : f_m_reasonOf_61 l0 l1 l2 l3 M = some r) : EV d 211 61 [some (.ref l0), some (.int l1), some (.int l2), some (.int l3)] [] M (some (.int r.1), r.2) := by
  unfold f_m_reasonOf_61 at h
  refine EV_stq mx_211 (pc' := 62) (L' := [some (.ref l0), some (.int l1), some (.int l2), some (.int l3)]) (st' := [.ref l0]) bo_211_61_769b30 rfl ?_
  refine r_gA mx_211 li_211_62 fd_14_111 rfl h (fun a1 h => ?_)
  refine EV_stq mx_211 (pc' := 66) (L' := [some (.ref l0), some (.int l1), some (.int l2), some (.int l3)]) (st' := [.int l3, .ref a1]) bo_211_65_a2326b rfl ?_
  refine r_aB mx_211 li_211_66 h (fun v2 h => ?_)
  refine h_eq h (fun h hc => ?_) (fun h hc => ?_)
  · refine r_ifT mx_211 li_211_67 (by decide) rfl hc ?_
    exact e_m_reasonOf_91 hd l0 l1 l2 l3 M r h
  · refine r_ifF mx_211 li_211_67 (by decide) hc ?_
    refine EV_stq mx_211 (pc' := 73) (L' := [some (.ref l0), some (.int l1), some (.int l2), some (.int l3)]) (st' := [.int l2, .int l1, .ref l0]) bo_211_70_c5dfb8 rfl ?_
    refine h_ck h (fun hc h => ?_)
    refine h_cI h (fun v4 M3 e h => ?_)
    refine EV_call [.ref l0, .int l1, .int l2] [] mx_211 li_211_73 rfl rfl si_14_354 rfl (by decide) (by decide) (by omega) ma_149 rfl (Nat.le_of_ble_eq_true rfl) rfl rfl (Nat.le_of_ble_eq_true rfl) (rc_1 mt_at_149 rfl rfl (by decide) hc) (e_m_refusing (by omega) l0 l1 l2 M _ e) ?_
    show EV d 211 76 [some (.ref l0), some (.int l1), some (.int l2), some (.int l3)] [.int v4] M3 _
    refine h_lt h (fun h hc => ?_) (fun h hc => ?_)
    · refine r_ifT mx_211 li_211_76 (by decide) rfl hc ?_
      exact e_m_reasonOf_91 hd l0 l1 l2 l3 M3 r h
    · refine r_ifF mx_211 li_211_76 (by decide) hc ?_
      refine EV_stq mx_211 (pc' := 83) (L' := [some (.ref l0), some (.int l1), some (.int l2), some (.int l3)]) (st' := [.int l2, .int l1, .ref l0, .ref l0]) bo_211_79_497297 rfl ?_
      refine h_ck h (fun hc h => ?_)
      refine h_cI h (fun v6 M5 e h => ?_)
      refine EV_call [.ref l0, .int l1, .int l2] [.ref l0] mx_211 li_211_83 rfl rfl si_14_354 rfl (by decide) (by decide) (by omega) ma_149 rfl (Nat.le_of_ble_eq_true rfl) rfl rfl (Nat.le_of_ble_eq_true rfl) (rc_1 mt_at_149 rfl rfl (by decide) hc) (e_m_refusing (by omega) l0 l1 l2 M3 _ e) ?_
      show EV d 211 86 [some (.ref l0), some (.int l1), some (.int l2), some (.int l3)] [.int v6, .ref l0] M5 _
      refine r_pI mx_211 li_211_86 fd_14_393 (Or.inl rfl) rfl h (fun M7 h => ?_)
      refine EV_stq mx_211 (pc' := 90) (L' := [some (.ref l0), some (.int l1), some (.int l2), some (.int l3)]) (st' := [.int (2 : Int32)]) bo_211_89_bbca9b rfl ?_
      obtain rfl := Option.some.inj h
      exact r_ret mx_211 li_211_90 rfl ro_int
theorem e_m_reasonOf {d : Nat} (hd : 2 ≤ d) (p0 : Nat) (p1 : Int32) (p2 : Int32) (M : Mem) (r : Int32 × Mem) (h : f_m_reasonOf p0 p1 p2 M = some r) : EV d 211 0 (entL 4 [.ref p0, .int p1, .int p2]) [] M (some (.int r.1), r.2) := by
  show EV d 211 0 [some (.ref p0), some (.int p1), some (.int p2), none] [] M _
  unfold f_m_reasonOf at h
  refine EV_stq mx_211 (pc' := 2) (L' := [some (.ref p0), some (.int p1), some (.int p2), none]) (st' := [.int p2, .int p1]) bo_211_0_264884 rfl ?_
  refine h_cI h (fun v2 M1 e h => ?_)
  refine EV_call [.int p1, .int p2] [] mx_211 li_211_2 rfl rfl si_14_288 rfl (by decide) (by decide) (by omega) ma_141 rfl (Nat.le_of_ble_eq_true rfl) rfl rfl (Nat.le_of_ble_eq_true rfl) rfl (e_m_spot (by omega) p1 p2 M _ e) ?_
  show EV d 211 5 [some (.ref p0), some (.int p1), some (.int p2), none] [.int v2] M1 _
  refine EV_stq mx_211 (pc' := 7) (L' := [some (.ref p0), some (.int p1), some (.int p2), some (.int v2)]) (st' := [.ref p0]) bo_211_5_ca77c4 rfl ?_
  refine r_gA mx_211 li_211_7 fd_14_93 rfl h (fun a3 h => ?_)
  refine EV_stq mx_211 (pc' := 11) (L' := [some (.ref p0), some (.int p1), some (.int p2), some (.int v2)]) (st' := [.int v2, .ref a3]) bo_211_10_2a30f5 rfl ?_
  refine r_aI mx_211 li_211_11 h (fun v4 h => ?_)
  refine h_le h (fun h hc => ?_) (fun h hc => ?_)
  · refine r_ifT mx_211 li_211_12 (by decide) rfl hc ?_
    exact e_m_reasonOf_61 hd p0 p1 p2 v2 M1 r h
  · refine r_ifF mx_211 li_211_12 (by decide) hc ?_
    refine EV_stq mx_211 (pc' := 22) (L' := [some (.ref p0), some (.int p1), some (.int p2), some (.int v2)]) (st' := [.ref p0, .int p2, .int p1, .ref p0, .int p2, .int p1, .ref p0]) bo_211_15_27c4e3 rfl ?_
    refine r_gA mx_211 li_211_22 fd_14_96 rfl h (fun a5 h => ?_)
    refine EV_stq mx_211 (pc' := 28) (L' := [some (.ref p0), some (.int p1), some (.int p2), some (.int v2)]) (st' := [.int ((3 : Int32) * v2), .ref a5, .int p2, .int p1, .ref p0, .int p2, .int p1, .ref p0]) bo_211_25_43ea85 rfl ?_
    refine r_aI mx_211 li_211_28 h (fun v6 h => ?_)
    refine h_ck h (fun hc h => ?_)
    refine h_cI h (fun v8 M7 e h => ?_)
    refine EV_call [.ref p0, .int p1, .int p2, .int v6] [.int p2, .int p1, .ref p0] mx_211 li_211_29 rfl rfl si_14_344 rfl (by decide) (by decide) (by omega) ma_144 rfl (Nat.le_of_ble_eq_true rfl) rfl rfl (Nat.le_of_ble_eq_true rfl) (rc_1 mt_at_144 rfl rfl (by decide) hc) (e_m_goal (by omega) p0 p1 p2 v6 M1 _ e) ?_
    show EV d 211 32 [some (.ref p0), some (.int p1), some (.int p2), some (.int v2)] [.int v8, .int p2, .int p1, .ref p0] M7 _
    refine h_cI h (fun v10 M9 e h => ?_)
    refine EV_call [.int p1, .int p2, .int v8] [.ref p0] mx_211 li_211_32 rfl rfl si_14_324 rfl (by decide) (by decide) (by omega) ma_145 rfl (Nat.le_of_ble_eq_true rfl) rfl rfl (Nat.le_of_ble_eq_true rfl) rfl (e_m_line (by omega) p1 p2 v8 M7 _ e) ?_
    show EV d 211 35 [some (.ref p0), some (.int p1), some (.int p2), some (.int v2)] [.int v10, .ref p0] M9 _
    refine h_ck h (fun hc h => ?_)
    refine h_cI h (fun v12 M11 e h => ?_)
    refine EV_call [.ref p0, .int v10] [] mx_211 li_211_35 rfl rfl si_14_347 rfl (by decide) (by decide) (by omega) ma_146 rfl (Nat.le_of_ble_eq_true rfl) rfl rfl (Nat.le_of_ble_eq_true rfl) (rc_1 mt_at_146 rfl rfl (by decide) hc) (e_m_takesRecord (by omega) p0 v10 M9 _ e) ?_
    show EV d 211 38 [some (.ref p0), some (.int p1), some (.int p2), some (.int v2)] [.int v12] M11 _
    refine h_ne h (fun h hc => ?_) (fun h hc => ?_)
    · refine r_ifF mx_211 li_211_38 (by decide) hc ?_
      refine EV_stq mx_211 (pc' := 46) (L' := [some (.ref p0), some (.int p1), some (.int p2), some (.int v2)]) (st' := [.ref p0, .int p2, .int p1, .ref p0, .ref p0]) bo_211_41_f9fef1 rfl ?_
      refine r_gA mx_211 li_211_46 fd_14_96 rfl h (fun a13 h => ?_)
      refine EV_stq mx_211 (pc' := 52) (L' := [some (.ref p0), some (.int p1), some (.int p2), some (.int v2)]) (st' := [.int ((3 : Int32) * v2), .ref a13, .int p2, .int p1, .ref p0, .ref p0]) bo_211_49_5ed7df rfl ?_
      refine r_aI mx_211 li_211_52 h (fun v14 h => ?_)
      refine h_ck h (fun hc h => ?_)
      refine h_cI h (fun v16 M15 e h => ?_)
      refine EV_call [.ref p0, .int p1, .int p2, .int v14] [.ref p0] mx_211 li_211_53 rfl rfl si_14_344 rfl (by decide) (by decide) (by omega) ma_144 rfl (Nat.le_of_ble_eq_true rfl) rfl rfl (Nat.le_of_ble_eq_true rfl) (rc_1 mt_at_144 rfl rfl (by decide) hc) (e_m_goal (by omega) p0 p1 p2 v14 M11 _ e) ?_
      show EV d 211 56 [some (.ref p0), some (.int p1), some (.int p2), some (.int v2)] [.int v16, .ref p0] M15 _
      refine r_pI mx_211 li_211_56 fd_14_393 (Or.inl rfl) rfl h (fun M17 h => ?_)
      refine EV_stq mx_211 (pc' := 60) (L' := [some (.ref p0), some (.int p1), some (.int p2), some (.int v2)]) (st' := [.int (1 : Int32)]) bo_211_59_8c3b95 rfl ?_
      obtain rfl := Option.some.inj h
      exact r_ret mx_211 li_211_60 rfl ro_int
    · refine r_ifT mx_211 li_211_38 (by decide) rfl hc ?_
      exact e_m_reasonOf_61 hd p0 p1 p2 v2 M11 r h
theorem e_m_explain_126 {d : Nat} (hd : 3 ≤ d) (k41 : Nat → Int32 → Int32 → Int32 → Mem → Option (Int32 × Mem)) (hk41 : ∀ l0 l3 l4 l5 M r, k41 l0 l3 l4 l5 M = some r → EV d 212 41 [some (.ref l0), none, none, some (.int l3), some (.int l4), some (.int l5), none] [] M (some (.int r.1), r.2)) (l0 : Nat) (l5 : Int32) (s0 : Int32) (s1 : Int32) (M : Mem) (r : Int32 × Mem) (h : f_m_explain_126 k41 l0 l5 s0 s1 M = some r) : EV d 212 126 [some (.ref l0), none, none, none, none, some (.int l5), none] [.int s0, .int s1] M (some (.int r.1), r.2) := by
  unfold f_m_explain_126 at h
  refine EV_stq mx_212 (pc' := 129) (L' := [some (.ref l0), none, none, some (.int (s1 + s0)), none, some (.int l5), none]) (st' := [.ref l0]) bo_212_126_5c1ba5 rfl ?_
  refine r_gI mx_212 li_212_129 fd_14_393 ⟨by decide, by decide⟩ h (fun v1 h => ?_)
  refine EV_stq mx_212 (pc' := 41) (L' := [some (.ref l0), none, none, some (.int (s1 + s0)), some (.int v1), some (.int l5), none]) (st' := []) bo_212_132_8d813f rfl ?_
  exact hk41 l0 (s1 + s0) v1 l5 M r h
theorem e_m_explain_112 {d : Nat} (hd : 3 ≤ d) (k41 : Nat → Int32 → Int32 → Int32 → Mem → Option (Int32 × Mem)) (hk41 : ∀ l0 l3 l4 l5 M r, k41 l0 l3 l4 l5 M = some r → EV d 212 41 [some (.ref l0), none, none, some (.int l3), some (.int l4), some (.int l5), none] [] M (some (.int r.1), r.2)) (l0 : Nat) (l3 : Int32) (l6 : Int32) (s0 : Int32) (M : Mem) (r : Int32 × Mem) (h : f_m_explain_112 k41 l0 l3 l6 s0 M = some r) : EV d 212 112 [some (.ref l0), none, none, some (.int l3), none, none, some (.int l6)] [.int s0] M (some (.int r.1), r.2) := by
  unfold f_m_explain_112 at h
  refine EV_stq mx_212 (pc' := 118) (L' := [some (.ref l0), none, none, some (.int l3), none, some (.int s0), some (.int l6)]) (st' := [.int (3 : Int32), .int l6, .int l3]) bo_212_112_5d5ee9 rfl ?_
  refine h_ge h (fun h hc => ?_) (fun h hc => ?_)
  · refine r_icT mx_212 li_212_118 (by decide) rfl hc ?_
    refine EV_stq mx_212 (pc' := 126) (L' := [some (.ref l0), none, none, some (.int l3), none, some (.int s0), some (.int l6)]) (st' := [.int (-1 : Int32), .int l3]) bo_212_125_bc72fa rfl ?_
    refine EV_forget (A := [some (.ref l0), none, none, none, none, some (.int s0), none]) (lsub_of _ _ ⟨Or.inr rfl, ⟨Or.inl rfl, ⟨Or.inl rfl, ⟨Or.inl rfl, ⟨Or.inl rfl, ⟨Or.inr rfl, ⟨Or.inl rfl, trivial⟩⟩⟩⟩⟩⟩⟩) ?_
    exact e_m_explain_126 hd k41 hk41 l0 s0 (-1 : Int32) l3 M r h
  · refine r_icF mx_212 li_212_118 (by decide) hc ?_
    refine EV_stq mx_212 (pc' := 126) (L' := [some (.ref l0), none, none, some (.int l3), none, some (.int s0), some (.int l6)]) (st' := [.int (1 : Int32), .int l3]) bo_212_121_74ff17 rfl ?_
    refine EV_forget (A := [some (.ref l0), none, none, none, none, some (.int s0), none]) (lsub_of _ _ ⟨Or.inr rfl, ⟨Or.inl rfl, ⟨Or.inl rfl, ⟨Or.inl rfl, ⟨Or.inl rfl, ⟨Or.inr rfl, ⟨Or.inl rfl, trivial⟩⟩⟩⟩⟩⟩⟩) ?_
    exact e_m_explain_126 hd k41 hk41 l0 s0 (1 : Int32) l3 M r h
theorem e_m_explain_111 {d : Nat} (hd : 3 ≤ d) (k41 : Nat → Int32 → Int32 → Int32 → Mem → Option (Int32 × Mem)) (hk41 : ∀ l0 l3 l4 l5 M r, k41 l0 l3 l4 l5 M = some r → EV d 212 41 [some (.ref l0), none, none, some (.int l3), some (.int l4), some (.int l5), none] [] M (some (.int r.1), r.2)) (l0 : Nat) (l3 : Int32) (l6 : Int32) (M : Mem) (r : Int32 × Mem) (h : f_m_explain_111 k41 l0 l3 l6 M = some r) : EV d 212 111 [some (.ref l0), none, none, some (.int l3), none, none, some (.int l6)] [] M (some (.int r.1), r.2) := by
  unfold f_m_explain_111 at h
  refine EV_stq mx_212 (pc' := 112) (L' := [some (.ref l0), none, none, some (.int l3), none, none, some (.int l6)]) (st' := [.int (0 : Int32)]) bo_212_111_87438c rfl ?_
  exact e_m_explain_112 hd k41 hk41 l0 l3 l6 (0 : Int32) M r h
theorem e_m_explain_41 {d : Nat} (hd : 3 ≤ d) : ∀ (n : Nat) (l0 : Nat) (l3 : Int32) (l4 : Int32) (l5 : Int32) (M : Mem) (r : Int32 × Mem), f_m_explain_41 n l0 l3 l4 l5 M = some r → EV d 212 41 [some (.ref l0), none, none, some (.int l3), some (.int l4), some (.int l5), none] [] M (some (.int r.1), r.2) := by
  intro n
  induction n with
  | zero => intro l0 l3 l4 l5 M r h; cases h
  | succ n ih =>
    intro l0 l3 l4 l5 M r h
    unfold f_m_explain_41 at h
    refine EV_stq mx_212 (pc' := 43) (L' := [some (.ref l0), none, none, some (.int l3), some (.int l4), some (.int l5), none]) (st' := [.int l5]) bo_212_41_45abaf rfl ?_
    refine h_eq h (fun h hc => ?_) (fun h hc => ?_)
    · refine r_ifT mx_212 li_212_43 (by decide) rfl hc ?_
      refine EV_stq mx_212 (pc' := 138) (L' := [some (.ref l0), none, none, some (.int l3), some (.int l4), some (.int l5), none]) (st' := [.ref l0]) bo_212_137_1c181f rfl ?_
      refine r_gI mx_212 li_212_138 fd_14_396 ⟨by decide, by decide⟩ h (fun v1 h => ?_)
      obtain rfl := Option.some.inj h
      exact r_ret mx_212 li_212_141 rfl ro_int
    · refine r_ifF mx_212 li_212_43 (by decide) hc ?_
      refine EV_stq mx_212 (pc' := 50) (L' := [some (.ref l0), none, none, some (.int l3), some (.int l4), some (.int l5), none]) (st' := [.int l4, .int l3, .ref l0]) bo_212_46_2efbd7 rfl ?_
      refine h_ck h (fun hc h => ?_)
      refine h_cI h (fun v3 M2 e h => ?_)
      refine EV_call [.ref l0, .int l3, .int l4] [] mx_212 li_212_50 rfl rfl si_14_399 rfl (by decide) (by decide) (by omega) ma_211 rfl (Nat.le_of_ble_eq_true rfl) rfl rfl (Nat.le_of_ble_eq_true rfl) (rc_1 mt_at_211 rfl rfl (by decide) hc) (e_m_reasonOf (by omega) l0 l3 l4 M _ e) ?_
      show EV d 212 53 [some (.ref l0), none, none, some (.int l3), some (.int l4), some (.int l5), none] [.int v3] M2 _
      refine EV_stq mx_212 (pc' := 56) (L' := [some (.ref l0), none, none, some (.int l3), some (.int l4), some (.int l5), some (.int v3)]) (st' := [.ref l0]) bo_212_53_819f73 rfl ?_
      refine r_gA mx_212 li_212_56 fd_14_187 rfl h (fun a4 h => ?_)
      refine EV_stq mx_212 (pc' := 60) (L' := [some (.ref l0), none, none, some (.int l3), some (.int l4), some (.int l5), some (.int v3)]) (st' := [.ref l0, .ref a4]) bo_212_59_8c3b95 rfl ?_
      refine r_gI mx_212 li_212_60 fd_14_396 ⟨by decide, by decide⟩ h (fun v5 h => ?_)
      refine EV_stq mx_212 (pc' := 70) (L' := [some (.ref l0), none, none, some (.int l3), some (.int l4), some (.int l5), some (.int v3)]) (st' := [.int (((10 : Int32) * l3) + l4), .int v5, .ref a4]) bo_212_63_4a9c08 rfl ?_
      refine r_sI mx_212 li_212_70 h (fun M6 h => ?_)
      refine EV_stq mx_212 (pc' := 72) (L' := [some (.ref l0), none, none, some (.int l3), some (.int l4), some (.int l5), some (.int v3)]) (st' := [.ref l0]) bo_212_71_2ba9bf rfl ?_
      refine r_gA mx_212 li_212_72 fd_14_190 rfl h (fun a7 h => ?_)
      refine EV_stq mx_212 (pc' := 76) (L' := [some (.ref l0), none, none, some (.int l3), some (.int l4), some (.int l5), some (.int v3)]) (st' := [.ref l0, .ref a7]) bo_212_75_1f1f88 rfl ?_
      refine r_gI mx_212 li_212_76 fd_14_396 ⟨by decide, by decide⟩ h (fun v8 h => ?_)
      refine EV_stq mx_212 (pc' := 81) (L' := [some (.ref l0), none, none, some (.int l3), some (.int l4), some (.int l5), some (.int v3)]) (st' := [.int v3, .int v8, .ref a7]) bo_212_79_febf86 rfl ?_
      refine r_sI mx_212 li_212_81 h (fun M9 h => ?_)
      refine EV_stq mx_212 (pc' := 84) (L' := [some (.ref l0), none, none, some (.int l3), some (.int l4), some (.int l5), some (.int v3)]) (st' := [.ref l0, .ref l0]) bo_212_82_695807 rfl ?_
      refine r_gI mx_212 li_212_84 fd_14_396 ⟨by decide, by decide⟩ h (fun v10 h => ?_)
      refine EV_stq mx_212 (pc' := 89) (L' := [some (.ref l0), none, none, some (.int l3), some (.int l4), some (.int l5), some (.int v3)]) (st' := [.int (v10 + (1 : Int32)), .ref l0]) bo_212_87_f249ad rfl ?_
      refine r_pI mx_212 li_212_89 fd_14_396 (Or.inl rfl) rfl h (fun M11 h => ?_)
      refine EV_stq mx_212 (pc' := 95) (L' := [some (.ref l0), none, none, some (.int l3), some (.int l4), some (.int l5), some (.int v3)]) (st' := [.int (4 : Int32), .int v3]) bo_212_92_7a2ea4 rfl ?_
      refine h_ge h (fun h hc => ?_) (fun h hc => ?_)
      · refine r_icT mx_212 li_212_95 (by decide) rfl hc ?_
        refine EV_forget (A := [some (.ref l0), none, none, some (.int l3), none, none, some (.int v3)]) (lsub_of _ _ ⟨Or.inr rfl, ⟨Or.inl rfl, ⟨Or.inl rfl, ⟨Or.inr rfl, ⟨Or.inl rfl, ⟨Or.inl rfl, ⟨Or.inr rfl, trivial⟩⟩⟩⟩⟩⟩⟩) ?_
        exact e_m_explain_111 hd _ ih l0 l3 v3 M11 r h
      · refine r_icF mx_212 li_212_95 (by decide) hc ?_
        refine EV_stq mx_212 (pc' := 99) (L' := [some (.ref l0), none, none, some (.int l3), some (.int l4), some (.int l5), some (.int v3)]) (st' := [.ref l0]) bo_212_98_9ec1f3 rfl ?_
        refine r_gI mx_212 li_212_99 fd_14_396 ⟨by decide, by decide⟩ h (fun v12 h => ?_)
        refine EV_stq mx_212 (pc' := 104) (L' := [some (.ref l0), none, none, some (.int l3), some (.int l4), some (.int l5), some (.int v3)]) (st' := [.int (8 : Int32), .int v12]) bo_212_102_097908 rfl ?_
        refine h_ge h (fun h hc => ?_) (fun h hc => ?_)
        · refine r_icT mx_212 li_212_104 (by decide) rfl hc ?_
          refine EV_forget (A := [some (.ref l0), none, none, some (.int l3), none, none, some (.int v3)]) (lsub_of _ _ ⟨Or.inr rfl, ⟨Or.inl rfl, ⟨Or.inl rfl, ⟨Or.inr rfl, ⟨Or.inl rfl, ⟨Or.inl rfl, ⟨Or.inr rfl, trivial⟩⟩⟩⟩⟩⟩⟩) ?_
          exact e_m_explain_111 hd _ ih l0 l3 v3 M11 r h
        · refine r_icF mx_212 li_212_104 (by decide) hc ?_
          refine EV_stq mx_212 (pc' := 112) (L' := [some (.ref l0), none, none, some (.int l3), some (.int l4), some (.int l5), some (.int v3)]) (st' := [.int (1 : Int32)]) bo_212_107_68dab3 rfl ?_
          refine EV_forget (A := [some (.ref l0), none, none, some (.int l3), none, none, some (.int v3)]) (lsub_of _ _ ⟨Or.inr rfl, ⟨Or.inl rfl, ⟨Or.inl rfl, ⟨Or.inr rfl, ⟨Or.inl rfl, ⟨Or.inl rfl, ⟨Or.inr rfl, trivial⟩⟩⟩⟩⟩⟩⟩) ?_
          exact e_m_explain_112 hd _ ih l0 l3 v3 (1 : Int32) M11 r h
theorem e_m_explain {d : Nat} (hd : 3 ≤ d) (p0 : Nat) (p1 : Int32) (p2 : Int32) (M : Mem) (r : Int32 × Mem) (h : f_m_explain p0 p1 p2 M = some r) : EV d 212 0 (entL 7 [.ref p0, .int p1, .int p2]) [] M (some (.int r.1), r.2) := by
  show EV d 212 0 [some (.ref p0), some (.int p1), some (.int p2), none, none, none, none] [] M _
  unfold f_m_explain at h
  refine EV_stq mx_212 (pc' := 2) (L' := [some (.ref p0), some (.int p1), some (.int p2), none, none, none, none]) (st' := [.int p1, .ref p0]) bo_212_0_264884 rfl ?_
  refine h_ck h (fun hc h => ?_)
  refine h_cI h (fun v2 M1 e h => ?_)
  refine EV_call [.ref p0, .int p1] [] mx_212 li_212_2 rfl rfl si_14_377 rfl (by decide) (by decide) (by omega) ma_177 rfl (Nat.le_of_ble_eq_true rfl) rfl rfl (Nat.le_of_ble_eq_true rfl) (rc_1 mt_at_177 rfl rfl (by decide) hc) (e_m_isOperator (by omega) p0 p1 M _ e) ?_
  show EV d 212 5 [some (.ref p0), some (.int p1), some (.int p2), none, none, none, none] [.int v2] M1 _
  refine h_eq h (fun h hc => ?_) (fun h hc => ?_)
  · refine r_ifT mx_212 li_212_5 (by decide) rfl hc ?_
    refine EV_stq mx_212 (pc' := 27) (L' := [some (.ref p0), some (.int p1), some (.int p2), none, none, none, none]) (st' := [.int (-1000000001 : Int32)]) bo_212_24_99aa1d rfl ?_
    obtain rfl := Option.some.inj h
    exact r_ret mx_212 li_212_27 rfl ro_int
  · refine r_ifF mx_212 li_212_5 (by decide) hc ?_
    refine EV_stq mx_212 (pc' := 11) (L' := [some (.ref p0), some (.int p1), some (.int p2), none, none, none, none]) (st' := [.ref p0, .int (0 : Int32), .int p2]) bo_212_8_325fca rfl ?_
    refine r_gA mx_212 li_212_11 fd_14_22 rfl h (fun a3 h => ?_)
    refine EV_stq mx_212 (pc' := 15) (L' := [some (.ref p0), some (.int p1), some (.int p2), none, none, none, none]) (st' := [.int p1, .ref a3, .int (0 : Int32), .int p2]) bo_212_14_3e81ce rfl ?_
    refine r_aI mx_212 li_212_15 h (fun v4 h => ?_)
    refine EV_stq mx_212 (pc' := 18) (L' := [some (.ref p0), some (.int p1), some (.int p2), none, none, none, none]) (st' := [.int (v4 - (1 : Int32)), .int (0 : Int32), .int p2]) bo_212_16_f4f9fa rfl ?_
    refine h_cI h (fun v6 M5 e h => ?_)
    refine EV_call [.int p2, .int (0 : Int32), .int (v4 - (1 : Int32))] [] mx_212 li_212_18 rfl rfl si_14_203 rfl (by decide) (by decide) (by omega) ma_29 rfl (Nat.le_of_ble_eq_true rfl) rfl rfl (Nat.le_of_ble_eq_true rfl) rfl (e_m_isIn (by omega) p2 (0 : Int32) (v4 - (1 : Int32)) M1 _ e) ?_
    show EV d 212 21 [some (.ref p0), some (.int p1), some (.int p2), none, none, none, none] [.int v6] M5 _
    refine h_ne h (fun h hc => ?_) (fun h hc => ?_)
    · refine r_ifF mx_212 li_212_21 (by decide) hc ?_
      refine EV_stq mx_212 (pc' := 27) (L' := [some (.ref p0), some (.int p1), some (.int p2), none, none, none, none]) (st' := [.int (-1000000001 : Int32)]) bo_212_24_99aa1d rfl ?_
      obtain rfl := Option.some.inj h
      exact r_ret mx_212 li_212_27 rfl ro_int
    · refine r_ifT mx_212 li_212_21 (by decide) rfl hc ?_
      refine EV_stq mx_212 (pc' := 30) (L' := [some (.ref p0), some (.int p1), some (.int p2), none, none, none, none]) (st' := [.int (0 : Int32), .ref p0]) bo_212_28_533662 rfl ?_
      refine r_pI mx_212 li_212_30 fd_14_396 (Or.inl rfl) rfl h (fun M7 h => ?_)
      refine EV_stq mx_212 (pc' := 41) (L' := [some (.ref p0), some (.int p1), some (.int p2), some (.int p1), some (.int p2), some (.int (1 : Int32)), none]) (st' := []) bo_212_33_7d5dd6 rfl ?_
      refine EV_forget (A := [some (.ref p0), none, none, some (.int p1), some (.int p2), some (.int (1 : Int32)), none]) (lsub_of _ _ ⟨Or.inr rfl, ⟨Or.inl rfl, ⟨Or.inl rfl, ⟨Or.inr rfl, ⟨Or.inr rfl, ⟨Or.inr rfl, ⟨Or.inl rfl, trivial⟩⟩⟩⟩⟩⟩⟩) ?_
      exact e_m_explain_41 hd FU p0 p1 p2 (1 : Int32) M7 r h
theorem e_x_explanation {d : Nat} (hd : 0 ≤ d) (p0 : Nat) (p1 : Int32) (p2 : Int32) (M : Mem) (r : Int32 × Mem) (h : f_x_explanation p0 p1 p2 M = some r) : EV d 213 0 (entL 3 [.ref p0, .int p1, .int p2]) [] M (some (.int r.1), r.2) := by
  show EV d 213 0 [some (.ref p0), some (.int p1), some (.int p2)] [] M _
  unfold f_x_explanation at h
  refine EV_stq mx_213 (pc' := 1) (L' := [some (.ref p0), some (.int p1), some (.int p2)]) (st' := [.int p1]) bo_213_0_8d5162 rfl ?_
  refine h_lt h (fun h hc => ?_) (fun h hc => ?_)
  · refine r_ifT mx_213 li_213_1 (by decide) rfl hc ?_
    refine EV_stq mx_213 (pc' := 23) (L' := [some (.ref p0), some (.int p1), some (.int p2)]) (st' := [.int (-1000000001 : Int32)]) bo_213_21_46c79c rfl ?_
    obtain rfl := Option.some.inj h
    exact r_ret mx_213 li_213_23 rfl ro_int
  · refine r_ifF mx_213 li_213_1 (by decide) hc ?_
    refine EV_stq mx_213 (pc' := 6) (L' := [some (.ref p0), some (.int p1), some (.int p2)]) (st' := [.ref p0, .int p1]) bo_213_4_40e659 rfl ?_
    refine r_gA mx_213 li_213_6 fd_13_47 rfl h (fun a1 h => ?_)
    refine r_gI mx_213 li_213_9 fd_13_265 ⟨by decide, by decide⟩ h (fun v2 h => ?_)
    refine h_ge h (fun h hc => ?_) (fun h hc => ?_)
    · refine r_icT mx_213 li_213_12 (by decide) rfl hc ?_
      refine EV_stq mx_213 (pc' := 23) (L' := [some (.ref p0), some (.int p1), some (.int p2)]) (st' := [.int (-1000000001 : Int32)]) bo_213_21_46c79c rfl ?_
      obtain rfl := Option.some.inj h
      exact r_ret mx_213 li_213_23 rfl ro_int
    · refine r_icF mx_213 li_213_12 (by decide) hc ?_
      refine EV_stq mx_213 (pc' := 18) (L' := [some (.ref p0), some (.int p1), some (.int p2)]) (st' := [.int (8 : Int32), .int p1]) bo_213_15_d45c32 rfl ?_
      refine h_lt h (fun h hc => ?_) (fun h hc => ?_)
      · refine r_icT mx_213 li_213_18 (by decide) rfl hc ?_
        refine EV_stq mx_213 (pc' := 25) (L' := [some (.ref p0), some (.int p1), some (.int p2)]) (st' := [.int p2]) bo_213_24_99aa1d rfl ?_
        refine h_sw h (fun hh e0 => ?_) (fun h e0 => ?_)
        · clear h
          subst e0
          have h := hh
          clear hh
          refine r_ls (off := 27) mx_213 li_213_25 (by decide) (by decide +kernel) (by decide) rfl ?_
          refine EV_stq mx_213 (pc' := 53) (L' := [some (.ref p0), some (.int p1), some (.int (0 : Int32))]) (st' := [.ref p0]) bo_213_52_118d3f rfl ?_
          refine r_gA mx_213 li_213_53 fd_13_47 rfl h (fun a3 h => ?_)
          refine r_gA mx_213 li_213_56 fd_13_268 rfl h (fun a4 h => ?_)
          refine EV_stq mx_213 (pc' := 60) (L' := [some (.ref p0), some (.int p1), some (.int (0 : Int32))]) (st' := [.int p1, .ref a4]) bo_213_59_8c3b95 rfl ?_
          refine r_aI mx_213 li_213_60 h (fun v5 h => ?_)
          obtain rfl := Option.some.inj h
          exact r_ret mx_213 li_213_61 rfl ro_int
        refine h_sw h (fun hh e1 => ?_) (fun h e1 => ?_)
        · clear h
          subst e1
          have h := hh
          clear hh
          refine r_ls (off := 37) mx_213 li_213_25 (by decide) (by decide +kernel) (by decide) rfl ?_
          refine EV_stq mx_213 (pc' := 63) (L' := [some (.ref p0), some (.int p1), some (.int (1 : Int32))]) (st' := [.ref p0]) bo_213_62_13a257 rfl ?_
          refine r_gA mx_213 li_213_63 fd_13_47 rfl h (fun a6 h => ?_)
          refine r_gA mx_213 li_213_66 fd_13_272 rfl h (fun a7 h => ?_)
          refine EV_stq mx_213 (pc' := 70) (L' := [some (.ref p0), some (.int p1), some (.int (1 : Int32))]) (st' := [.int p1, .ref a7]) bo_213_69_d2296b rfl ?_
          refine r_aI mx_213 li_213_70 h (fun v8 h => ?_)
          obtain rfl := Option.some.inj h
          exact r_ret mx_213 li_213_71 rfl ro_int
        refine r_ls (off := 47) mx_213 li_213_25 (by decide) (by show Op.lookupswitch.offset [(0, 27), (1, 37)] _ _ = _; rw [lv_osw e0 (by decide), lv_osw e1 (by decide)]; rfl) (by decide) rfl ?_
        refine EV_stq mx_213 (pc' := 74) (L' := [some (.ref p0), some (.int p1), some (.int p2)]) (st' := [.int (-1000000002 : Int32)]) bo_213_72_c0ffc8 rfl ?_
        obtain rfl := Option.some.inj h
        exact r_ret mx_213 li_213_74 rfl ro_int
      · refine r_icF mx_213 li_213_18 (by decide) hc ?_
        refine EV_stq mx_213 (pc' := 23) (L' := [some (.ref p0), some (.int p1), some (.int p2)]) (st' := [.int (-1000000001 : Int32)]) bo_213_21_46c79c rfl ?_
        obtain rfl := Option.some.inj h
        exact r_ret mx_213 li_213_23 rfl ro_int
theorem e_m_explanation {d : Nat} (hd : 1 ≤ d) (p0 : Nat) (p1 : Int32) (p2 : Int32) (M : Mem) (r : Int32 × Mem) (h : f_m_explanation p0 p1 p2 M = some r) : EV d 214 0 (entL 3 [.ref p0, .int p1, .int p2]) [] M (some (.int r.1), r.2) := by
  show EV d 214 0 [some (.ref p0), some (.int p1), some (.int p2)] [] M _
  unfold f_m_explanation at h
  refine EV_stq mx_214 (pc' := 3) (L' := [some (.ref p0), some (.int p1), some (.int p2)]) (st' := [.ref p0, .int (0 : Int32), .int p1]) bo_214_0_8b3750 rfl ?_
  refine r_gI mx_214 li_214_3 fd_14_396 ⟨by decide, by decide⟩ h (fun v1 h => ?_)
  refine EV_stq mx_214 (pc' := 8) (L' := [some (.ref p0), some (.int p1), some (.int p2)]) (st' := [.int (v1 - (1 : Int32)), .int (0 : Int32), .int p1]) bo_214_6_e618ed rfl ?_
  refine h_cI h (fun v3 M2 e h => ?_)
  refine EV_call [.int p1, .int (0 : Int32), .int (v1 - (1 : Int32))] [] mx_214 li_214_8 rfl rfl si_14_203 rfl (by decide) (by decide) (by omega) ma_29 rfl (Nat.le_of_ble_eq_true rfl) rfl rfl (Nat.le_of_ble_eq_true rfl) rfl (e_m_isIn (by omega) p1 (0 : Int32) (v1 - (1 : Int32)) M _ e) ?_
  show EV d 214 11 [some (.ref p0), some (.int p1), some (.int p2)] [.int v3] M2 _
  refine h_ne h (fun h hc => ?_) (fun h hc => ?_)
  · refine r_ifF mx_214 li_214_11 (by decide) hc ?_
    refine EV_stq mx_214 (pc' := 17) (L' := [some (.ref p0), some (.int p1), some (.int p2)]) (st' := [.int (-1000000001 : Int32)]) bo_214_14_3e81ce rfl ?_
    obtain rfl := Option.some.inj h
    exact r_ret mx_214 li_214_17 rfl ro_int
  · refine r_ifT mx_214 li_214_11 (by decide) rfl hc ?_
    refine EV_stq mx_214 (pc' := 21) (L' := [some (.ref p0), some (.int p1), some (.int p2)]) (st' := [.int (1 : Int32), .int (0 : Int32), .int p2]) bo_214_18_16f310 rfl ?_
    refine h_cI h (fun v5 M4 e h => ?_)
    refine EV_call [.int p2, .int (0 : Int32), .int (1 : Int32)] [] mx_214 li_214_21 rfl rfl si_14_203 rfl (by decide) (by decide) (by omega) ma_29 rfl (Nat.le_of_ble_eq_true rfl) rfl rfl (Nat.le_of_ble_eq_true rfl) rfl (e_m_isIn (by omega) p2 (0 : Int32) (1 : Int32) M2 _ e) ?_
    show EV d 214 24 [some (.ref p0), some (.int p1), some (.int p2)] [.int v5] M4 _
    refine h_ne h (fun h hc => ?_) (fun h hc => ?_)
    · refine r_ifF mx_214 li_214_24 (by decide) hc ?_
      refine EV_stq mx_214 (pc' := 51) (L' := [some (.ref p0), some (.int p1), some (.int p2)]) (st' := [.int (-1000000002 : Int32)]) bo_214_27_62aa2e rfl ?_
      obtain rfl := Option.some.inj h
      exact r_ret mx_214 li_214_51 rfl ro_int
    · refine r_ifT mx_214 li_214_24 (by decide) rfl hc ?_
      refine EV_stq mx_214 (pc' := 33) (L' := [some (.ref p0), some (.int p1), some (.int p2)]) (st' := [.int p2]) bo_214_32_191034 rfl ?_
      refine h_ne h (fun h hc => ?_) (fun h hc => ?_)
      · refine r_ifF mx_214 li_214_33 (by decide) hc ?_
        refine EV_stq mx_214 (pc' := 37) (L' := [some (.ref p0), some (.int p1), some (.int p2)]) (st' := [.ref p0]) bo_214_36_befed3 rfl ?_
        refine r_gA mx_214 li_214_37 fd_14_187 rfl h (fun a8 h => ?_)
        refine EV_stq mx_214 (pc' := 41) (L' := [some (.ref p0), some (.int p1), some (.int p2)]) (st' := [.int p1, .ref a8]) bo_214_40_d0cc5b rfl ?_
        refine r_aI mx_214 li_214_41 h (fun v9 h => ?_)
        refine EV_stq mx_214 (pc' := 51) (L' := [some (.ref p0), some (.int p1), some (.int p2)]) (st' := [.int v9]) bo_214_42_b358e7 rfl ?_
        obtain rfl := Option.some.inj h
        exact r_ret mx_214 li_214_51 rfl ro_int
      · refine r_ifT mx_214 li_214_33 (by decide) rfl hc ?_
        refine EV_stq mx_214 (pc' := 46) (L' := [some (.ref p0), some (.int p1), some (.int p2)]) (st' := [.ref p0]) bo_214_45_8e29f2 rfl ?_
        refine r_gA mx_214 li_214_46 fd_14_190 rfl h (fun a6 h => ?_)
        refine EV_stq mx_214 (pc' := 50) (L' := [some (.ref p0), some (.int p1), some (.int p2)]) (st' := [.int p1, .ref a6]) bo_214_49_e052b7 rfl ?_
        refine r_aI mx_214 li_214_50 h (fun v7 h => ?_)
        obtain rfl := Option.some.inj h
        exact r_ret mx_214 li_214_51 rfl ro_int
theorem e_sl_charAt {d : Nat} (hd : 2 ≤ d) (p1 : Int32) (M : Mem) (r : Int32 × Mem) (h : f_sl_charAt p1 M = some r) : EV d 215 0 (entL 2 [.retAddr 4, .int p1]) [] M (some (.int r.1), r.2) := by
  show EV d 215 0 [some (.retAddr 4), some (.int p1)] [] M _
  unfold f_sl_charAt at h
  refine EV_stq mx_215 (pc' := 3) (L' := [some (.retAddr 4), some (.int p1)]) (st' := [.int (7 : Int32), .int p1]) bo_215_0_8b3750 rfl ?_
  refine h_cV h (fun M1 e h => ?_)
  refine EV_call [.int p1, .int (7 : Int32)] [] mx_215 li_215_3 rfl rfl si_18_9 rfl (by decide) (by decide) (by omega) ma_32 rfl (Nat.le_of_ble_eq_true rfl) rfl rfl (Nat.le_of_ble_eq_true rfl) rfl (e_st_checkIndex (by omega) p1 (7 : Int32) M _ e) ?_
  show EV d 215 6 [some (.retAddr 4), some (.int p1)] [] M1 _
  refine EV_stq mx_215 (pc' := 8) (L' := [some (.retAddr 4), some (.int p1)]) (st' := [.int p1, .retAddr 4]) bo_215_6_e618ed rfl ?_
  refine r_aO mx_215 li_215_8 h (fun v2 h => ?_)
  refine EV_stq mx_215 (pc' := 14) (L' := [some (.retAddr 4), some (.int p1)]) (st' := [.int ((v2 &&& (255 : Int32)).toUInt32 % 65536).toInt32]) bo_215_9_c7177d rfl ?_
  refine h_nrZ h (fun hn h => ?_)
  obtain rfl := Option.some.inj h
  exact r_ret mx_215 li_215_14 rfl (ro_nar (t := .char) (by decide) hn)
theorem e_st_charAt {d : Nat} (hd : 3 ≤ d) (p1 : Int32) (M : Mem) (r : Int32 × Mem) (h : f_st_charAt p1 M = some r) : EV d 216 0 (entL 2 [.retAddr 3, .int p1]) [] M (some (.int r.1), r.2) := by
  show EV d 216 0 [some (.retAddr 3), some (.int p1)] [] M _
  unfold f_st_charAt at h
  refine EV_stq mx_216 (pc' := 1) (L' := [some (.retAddr 3), some (.int p1)]) (st' := [.retAddr 3]) bo_216_0_8d5162 rfl ?_
  refine h_cI h (fun v2 M1 e h => ?_)
  refine EV_call [.retAddr 3] [] mx_216 li_216_1 rfl rfl si_20_492 rfl (by decide) (by decide) (by omega) ma_36 rfl (Nat.le_of_ble_eq_true rfl) rfl rfl (Nat.le_of_ble_eq_true rfl) rfl (e_st_isLatin1 (by omega)  M _ e) ?_
  show EV d 216 4 [some (.retAddr 3), some (.int p1)] [.int v2] M1 _
  refine h_eq h (fun h hc => ?_) (fun h hc => ?_)
  · refine r_ifT mx_216 li_216_4 (by decide) rfl hc ?_
    cases h
  · refine r_ifF mx_216 li_216_4 (by decide) hc ?_
    refine EV_stq mx_216 (pc' := 12) (L' := [some (.retAddr 3), some (.int p1)]) (st' := [.int p1, .retAddr 4]) bo_216_7_6cc7bb rfl ?_
    refine h_cI h (fun v4 M3 e h => ?_)
    refine EV_call [.retAddr 4, .int p1] [] mx_216 li_216_12 rfl rfl si_20_495 rfl (by decide) (by decide) (by omega) ma_215 rfl (Nat.le_of_ble_eq_true rfl) rfl rfl (Nat.le_of_ble_eq_true rfl) rfl (e_sl_charAt (by omega) p1 M1 _ e) ?_
    show EV d 216 15 [some (.retAddr 3), some (.int p1)] [.int v4] M3 _
    refine h_nrZ h (fun hn h => ?_)
    obtain rfl := Option.some.inj h
    exact r_ret mx_216 li_216_15 rfl (ro_nar (t := .char) (by decide) hn)
theorem e_in_stringSize_16 {d : Nat} (hd : 0 ≤ d) : ∀ (n : Nat) (l0 : Int32) (l1 : Int32) (l2 : Int32) (l3 : Int32) (M : Mem) (r : Int32 × Mem), f_in_stringSize_16 n l0 l1 l2 l3 M = some r → EV d 217 16 [some (.int l0), some (.int l1), some (.int l2), some (.int l3)] [] M (some (.int r.1), r.2) := by
  intro n
  induction n with
  | zero => intro l0 l1 l2 l3 M r h; cases h
  | succ n ih =>
    intro l0 l1 l2 l3 M r h
    unfold f_in_stringSize_16 at h
    refine EV_stq mx_217 (pc' := 19) (L' := [some (.int l0), some (.int l1), some (.int l2), some (.int l3)]) (st' := [.int (10 : Int32), .int l3]) bo_217_16_f4f9fa rfl ?_
    refine h_ge h (fun h hc => ?_) (fun h hc => ?_)
    · refine r_icT mx_217 li_217_19 (by decide) rfl hc ?_
      refine EV_stq mx_217 (pc' := 46) (L' := [some (.int l0), some (.int l1), some (.int l2), some (.int l3)]) (st' := [.int ((10 : Int32) + l1)]) bo_217_42_e416d5 rfl ?_
      obtain rfl := Option.some.inj h
      exact r_ret mx_217 li_217_46 rfl ro_int
    · refine r_icF mx_217 li_217_19 (by decide) hc ?_
      refine EV_stq mx_217 (pc' := 24) (L' := [some (.int l0), some (.int l1), some (.int l2), some (.int l3)]) (st' := [.int l2, .int l0]) bo_217_22_13b32e rfl ?_
      refine h_le h (fun h hc => ?_) (fun h hc => ?_)
      · refine r_icT mx_217 li_217_24 (by decide) rfl hc ?_
        refine EV_stq mx_217 (pc' := 16) (L' := [some (.int l0), some (.int l1), some (.int ((10 : Int32) * l2)), some (.int (l3 + (1 : Int32)))]) (st' := []) bo_217_31_1ac72f rfl ?_
        exact ih l0 l1 ((10 : Int32) * l2) (l3 + (1 : Int32)) M r h
      · refine r_icF mx_217 li_217_24 (by decide) hc ?_
        refine EV_stq mx_217 (pc' := 30) (L' := [some (.int l0), some (.int l1), some (.int l2), some (.int l3)]) (st' := [.int (l3 + l1)]) bo_217_27_655868 rfl ?_
        obtain rfl := Option.some.inj h
        exact r_ret mx_217 li_217_30 rfl ro_int
theorem e_in_stringSize_11 {d : Nat} (hd : 0 ≤ d) (l0 : Int32) (l1 : Int32) (M : Mem) (r : Int32 × Mem) (h : f_in_stringSize_11 l0 l1 M = some r) : EV d 217 11 [some (.int l0), some (.int l1), none, none] [] M (some (.int r.1), r.2) := by
  unfold f_in_stringSize_11 at h
  refine EV_stq mx_217 (pc' := 16) (L' := [some (.int l0), some (.int l1), some (.int (-10 : Int32)), some (.int (1 : Int32))]) (st' := []) bo_217_11_ad6c31 rfl ?_
  exact e_in_stringSize_16 hd FU l0 l1 (-10 : Int32) (1 : Int32) M r h
theorem e_in_stringSize {d : Nat} (hd : 0 ≤ d) (p0 : Int32) (M : Mem) (r : Int32 × Mem) (h : f_in_stringSize p0 M = some r) : EV d 217 0 (entL 4 [.int p0]) [] M (some (.int r.1), r.2) := by
  show EV d 217 0 [some (.int p0), none, none, none] [] M _
  unfold f_in_stringSize at h
  refine EV_stq mx_217 (pc' := 3) (L' := [some (.int p0), some (.int (1 : Int32)), none, none]) (st' := [.int p0]) bo_217_0_8b3750 rfl ?_
  refine h_lt h (fun h hc => ?_) (fun h hc => ?_)
  · refine r_ifT mx_217 li_217_3 (by decide) rfl hc ?_
    exact e_in_stringSize_11 hd p0 (1 : Int32) M r h
  · refine r_ifF mx_217 li_217_3 (by decide) hc ?_
    refine EV_stq mx_217 (pc' := 11) (L' := [some (.int (-p0)), some (.int (0 : Int32)), none, none]) (st' := []) bo_217_6_1d8488 rfl ?_
    exact e_in_stringSize_11 hd (-p0) (0 : Int32) M r h
theorem e_in_getChars_104 {d : Nat} (hd : 0 ≤ d) (l2 : Nat) (l5 : Int32) (l6 : Int32) (M : Mem) (r : Int32 × Mem) (h : f_in_getChars_104 l2 l5 l6 M = some r) : EV d 218 104 [none, none, some (.ref l2), none, none, some (.int l5), some (.int l6)] [] M (some (.int r.1), r.2) := by
  unfold f_in_getChars_104 at h
  refine EV_stq mx_218 (pc' := 106) (L' := [none, none, some (.ref l2), none, none, some (.int l5), some (.int l6)]) (st' := [.int l6]) bo_218_104_a38d21 rfl ?_
  refine h_eq h (fun h hc => ?_) (fun h hc => ?_)
  · refine r_ifT mx_218 li_218_106 (by decide) rfl hc ?_
    refine EV_stq mx_218 (pc' := 120) (L' := [none, none, some (.ref l2), none, none, some (.int l5), some (.int l6)]) (st' := [.int l5]) bo_218_118_c412ec rfl ?_
    obtain rfl := Option.some.inj h
    exact r_ret mx_218 li_218_120 rfl ro_int
  · refine r_ifF mx_218 li_218_106 (by decide) hc ?_
    refine EV_stq mx_218 (pc' := 117) (L' := [none, none, some (.ref l2), none, none, some (.int (l5 + (-1 : Int32))), some (.int l6)]) (st' := [.int (45 : Int32), .int (l5 + (-1 : Int32)), .ref l2]) bo_218_109_2db59a rfl ?_
    refine r_sB mx_218 li_218_117 h (fun M1 h => ?_)
    refine EV_stq mx_218 (pc' := 120) (L' := [none, none, some (.ref l2), none, none, some (.int (l5 + (-1 : Int32))), some (.int l6)]) (st' := [.int (l5 + (-1 : Int32))]) bo_218_118_c412ec rfl ?_
    obtain rfl := Option.some.inj h
    exact r_ret mx_218 li_218_120 rfl ro_int
theorem e_in_getChars_22 {d : Nat} (hd : 0 ≤ d) : ∀ (n : Nat) (l0 : Int32) (l2 : Nat) (l5 : Int32) (l6 : Int32) (M : Mem) (r : Int32 × Mem), f_in_getChars_22 n l0 l2 l5 l6 M = some r → EV d 218 22 [some (.int l0), none, some (.ref l2), none, none, some (.int l5), some (.int l6)] [] M (some (.int r.1), r.2) := by
  intro n
  induction n with
  | zero => intro l0 l2 l5 l6 M r h; cases h
  | succ n ih =>
    intro l0 l2 l5 l6 M r h
    unfold f_in_getChars_22 at h
    refine EV_stq mx_218 (pc' := 25) (L' := [some (.int l0), none, some (.ref l2), none, none, some (.int l5), some (.int l6)]) (st' := [.int (-100 : Int32), .int l0]) bo_218_22_13b32e rfl ?_
    refine h_gt h (fun h hc => ?_) (fun h hc => ?_)
    · refine r_icT mx_218 li_218_25 (by decide) rfl hc ?_
      refine EV_stq mx_218 (pc' := 83) (L' := [some (.int l0), none, some (.ref l2), none, none, some (.int (l5 + (-1 : Int32))), some (.int l6)]) (st' := [.int (-l0), .retAddr 1, .int (l5 + (-1 : Int32)), .ref l2]) bo_218_72_1ddf00 rfl ?_
      refine r_aO mx_218 li_218_83 h (fun v1 h => ?_)
      refine r_sB mx_218 li_218_84 h (fun M2 h => ?_)
      refine EV_stq mx_218 (pc' := 88) (L' := [some (.int l0), none, some (.ref l2), none, none, some (.int (l5 + (-1 : Int32))), some (.int l6)]) (st' := [.int (-9 : Int32), .int l0]) bo_218_85_7a6887 rfl ?_
      refine h_ge h (fun h hc => ?_) (fun h hc => ?_)
      · refine r_icT mx_218 li_218_88 (by decide) rfl hc ?_
        refine EV_forget (A := [none, none, some (.ref l2), none, none, some (.int (l5 + (-1 : Int32))), some (.int l6)]) (lsub_of _ _ ⟨Or.inl rfl, ⟨Or.inl rfl, ⟨Or.inr rfl, ⟨Or.inl rfl, ⟨Or.inl rfl, ⟨Or.inr rfl, ⟨Or.inr rfl, trivial⟩⟩⟩⟩⟩⟩⟩) ?_
        exact e_in_getChars_104 hd l2 (l5 + (-1 : Int32)) l6 M2 r h
      · refine r_icF mx_218 li_218_88 (by decide) hc ?_
        refine EV_stq mx_218 (pc' := 102) (L' := [some (.int l0), none, some (.ref l2), none, none, some (.int ((l5 + (-1 : Int32)) + (-1 : Int32))), some (.int l6)]) (st' := [.int (-l0), .retAddr 2, .int ((l5 + (-1 : Int32)) + (-1 : Int32)), .ref l2]) bo_218_91_4808cf rfl ?_
        refine r_aO mx_218 li_218_102 h (fun v3 h => ?_)
        refine r_sB mx_218 li_218_103 h (fun M4 h => ?_)
        refine EV_forget (A := [none, none, some (.ref l2), none, none, some (.int ((l5 + (-1 : Int32)) + (-1 : Int32))), some (.int l6)]) (lsub_of _ _ ⟨Or.inl rfl, ⟨Or.inl rfl, ⟨Or.inr rfl, ⟨Or.inl rfl, ⟨Or.inl rfl, ⟨Or.inr rfl, ⟨Or.inr rfl, trivial⟩⟩⟩⟩⟩⟩⟩) ?_
        exact e_in_getChars_104 hd l2 ((l5 + (-1 : Int32)) + (-1 : Int32)) l6 M4 r h
    · refine r_icF mx_218 li_218_25 (by decide) hc ?_
      refine EV_stq mx_218 (pc' := 31) (L' := [some (.int l0), none, some (.ref l2), none, none, some (.int l5), some (.int l6)]) (st' := [.int (100 : Int32), .int l0]) bo_218_28_533662 rfl ?_
      refine r_dv mx_218 li_218_31 h (fun v5 h => ?_)
      refine EV_stq mx_218 (pc' := 54) (L' := [some (.int v5), none, some (.ref l2), some (.int v5), some (.int ((v5 * (100 : Int32)) - l0)), some (.int (l5 + (-1 : Int32))), some (.int l6)]) (st' := [.int ((v5 * (100 : Int32)) - l0), .retAddr 1, .int (l5 + (-1 : Int32)), .ref l2]) bo_218_32_acf113 rfl ?_
      refine r_aO mx_218 li_218_54 h (fun v6 h => ?_)
      refine r_sB mx_218 li_218_55 h (fun M7 h => ?_)
      refine EV_stq mx_218 (pc' := 67) (L' := [some (.int v5), none, some (.ref l2), some (.int v5), some (.int ((v5 * (100 : Int32)) - l0)), some (.int ((l5 + (-1 : Int32)) + (-1 : Int32))), some (.int l6)]) (st' := [.int ((v5 * (100 : Int32)) - l0), .retAddr 2, .int ((l5 + (-1 : Int32)) + (-1 : Int32)), .ref l2]) bo_218_56_b0d5c3 rfl ?_
      refine r_aO mx_218 li_218_67 h (fun v8 h => ?_)
      refine r_sB mx_218 li_218_68 h (fun M9 h => ?_)
      refine EV_stq mx_218 (pc' := 22) (L' := [some (.int v5), none, some (.ref l2), some (.int v5), some (.int ((v5 * (100 : Int32)) - l0)), some (.int ((l5 + (-1 : Int32)) + (-1 : Int32))), some (.int l6)]) (st' := []) bo_218_69_d2296b rfl ?_
      refine EV_forget (A := [some (.int v5), none, some (.ref l2), none, none, some (.int ((l5 + (-1 : Int32)) + (-1 : Int32))), some (.int l6)]) (lsub_of _ _ ⟨Or.inr rfl, ⟨Or.inl rfl, ⟨Or.inr rfl, ⟨Or.inl rfl, ⟨Or.inl rfl, ⟨Or.inr rfl, ⟨Or.inr rfl, trivial⟩⟩⟩⟩⟩⟩⟩) ?_
      exact ih v5 l2 ((l5 + (-1 : Int32)) + (-1 : Int32)) l6 M9 r h
theorem e_in_getChars_12 {d : Nat} (hd : 0 ≤ d) (l0 : Int32) (l2 : Nat) (l5 : Int32) (s0 : Int32) (M : Mem) (r : Int32 × Mem) (h : f_in_getChars_12 l0 l2 l5 s0 M = some r) : EV d 218 12 [some (.int l0), none, some (.ref l2), none, none, some (.int l5), none] [.int s0] M (some (.int r.1), r.2) := by
  unfold f_in_getChars_12 at h
  refine EV_stq mx_218 (pc' := 16) (L' := [some (.int l0), none, some (.ref l2), none, none, some (.int l5), some (.int s0)]) (st' := [.int s0]) bo_218_12_26027e rfl ?_
  refine h_ne h (fun h hc => ?_) (fun h hc => ?_)
  · refine r_ifF mx_218 li_218_16 (by decide) hc ?_
    refine EV_stq mx_218 (pc' := 22) (L' := [some (.int (-l0)), none, some (.ref l2), none, none, some (.int l5), some (.int s0)]) (st' := []) bo_218_19_7f125f rfl ?_
    exact e_in_getChars_22 hd FU (-l0) l2 l5 s0 M r h
  · refine r_ifT mx_218 li_218_16 (by decide) rfl hc ?_
    exact e_in_getChars_22 hd FU l0 l2 l5 s0 M r h
theorem e_in_getChars {d : Nat} (hd : 0 ≤ d) (p0 : Int32) (p1 : Int32) (p2 : Nat) (M : Mem) (r : Int32 × Mem) (h : f_in_getChars p0 p1 p2 M = some r) : EV d 218 0 (entL 7 [.int p0, .int p1, .ref p2]) [] M (some (.int r.1), r.2) := by
  show EV d 218 0 [some (.int p0), some (.int p1), some (.ref p2), none, none, none, none] [] M _
  unfold f_in_getChars at h
  refine EV_stq mx_218 (pc' := 4) (L' := [some (.int p0), some (.int p1), some (.ref p2), none, none, some (.int p1), none]) (st' := [.int p0]) bo_218_0_4db342 rfl ?_
  refine h_ge h (fun h hc => ?_) (fun h hc => ?_)
  · refine r_ifT mx_218 li_218_4 (by decide) rfl hc ?_
    refine EV_stq mx_218 (pc' := 12) (L' := [some (.int p0), some (.int p1), some (.ref p2), none, none, some (.int p1), none]) (st' := [.int (0 : Int32)]) bo_218_11_081257 rfl ?_
    refine EV_forget (A := [some (.int p0), none, some (.ref p2), none, none, some (.int p1), none]) (lsub_of _ _ ⟨Or.inr rfl, ⟨Or.inl rfl, ⟨Or.inr rfl, ⟨Or.inl rfl, ⟨Or.inl rfl, ⟨Or.inr rfl, ⟨Or.inl rfl, trivial⟩⟩⟩⟩⟩⟩⟩) ?_
    exact e_in_getChars_12 hd p0 p2 p1 (0 : Int32) M r h
  · refine r_ifF mx_218 li_218_4 (by decide) hc ?_
    refine EV_stq mx_218 (pc' := 12) (L' := [some (.int p0), some (.int p1), some (.ref p2), none, none, some (.int p1), none]) (st' := [.int (1 : Int32)]) bo_218_7_7eef78 rfl ?_
    refine EV_forget (A := [some (.int p0), none, some (.ref p2), none, none, some (.int p1), none]) (lsub_of _ _ ⟨Or.inr rfl, ⟨Or.inl rfl, ⟨Or.inr rfl, ⟨Or.inl rfl, ⟨Or.inl rfl, ⟨Or.inr rfl, ⟨Or.inl rfl, trivial⟩⟩⟩⟩⟩⟩⟩) ?_
    exact e_in_getChars_12 hd p0 p2 p1 (1 : Int32) M r h
theorem e_ab_append1 {d : Nat} (hd : 4 ≤ d) (p0 : Nat) (p1 : Int32) (M : Mem) (r : Option Nat × Mem) (h : f_ab_append1 p0 p1 M = some r) : EV d 219 0 (entL 4 [.ref p0, .int p1]) [] M (some (rfv r.1), r.2) := by
  show EV d 219 0 [some (.ref p0), some (.int p1), none, none] [] M _
  unfold f_ab_append1 at h
  refine EV_stq mx_219 (pc' := 1) (L' := [some (.ref p0), some (.int p1), none, none]) (st' := [.ref p0]) bo_219_0_8d5162 rfl ?_
  refine r_gI mx_219 li_219_1 fd_0_79 ⟨by decide, by decide⟩ h (fun v1 h => ?_)
  refine EV_stq mx_219 (pc' := 7) (L' := [some (.ref p0), some (.int p1), some (.int v1), none]) (st' := [.int p1, .int v1]) bo_219_4_607491 rfl ?_
  refine h_cI h (fun v3 M2 e h => ?_)
  refine EV_call [.int p1] [.int v1] mx_219 li_219_7 rfl rfl si_0_245 rfl (by decide) (by decide) (by omega) ma_217 rfl (Nat.le_of_ble_eq_true rfl) rfl rfl (Nat.le_of_ble_eq_true rfl) rfl (e_in_stringSize (by omega) p1 M _ e) ?_
  show EV d 219 10 [some (.ref p0), some (.int p1), some (.int v1), none] [.int v3, .int v1] M2 _
  refine EV_stq mx_219 (pc' := 14) (L' := [some (.ref p0), some (.int p1), some (.int v1), some (.int (v1 + v3))]) (st' := [.int (v1 + v3), .ref p0]) bo_219_10_a44793 rfl ?_
  refine h_ck h (fun hc h => ?_)
  refine h_cV h (fun M4 e h => ?_)
  refine EV_call [.ref p0, .int (v1 + v3)] [] mx_219 li_219_14 rfl rfl si_0_100 rfl (by decide) (by decide) (by omega) ma_23 rfl (Nat.le_of_ble_eq_true rfl) rfl rfl (Nat.le_of_ble_eq_true rfl) (rc_34 (by decide) hc) (e_ab_ensureCapacityInternal (by omega) p0 (v1 + v3) M2 _ e) ?_
  show EV d 219 17 [some (.ref p0), some (.int p1), some (.int v1), some (.int (v1 + v3))] [] M4 _
  refine EV_stq mx_219 (pc' := 18) (L' := [some (.ref p0), some (.int p1), some (.int v1), some (.int (v1 + v3))]) (st' := [.ref p0]) bo_219_17_509256 rfl ?_
  refine h_ck h (fun hc h => ?_)
  refine h_cI h (fun v6 M5 e h => ?_)
  refine EV_call [.ref p0] [] mx_219 li_219_18 rfl rfl si_0_83 rfl (by decide) (by decide) (by omega) ma_24 rfl (Nat.le_of_ble_eq_true rfl) rfl rfl (Nat.le_of_ble_eq_true rfl) (rc_34 (by decide) hc) (e_ab_isLatin1 (by omega) p0 M4 _ e) ?_
  show EV d 219 21 [some (.ref p0), some (.int p1), some (.int v1), some (.int (v1 + v3))] [.int v6] M5 _
  refine h_eq h (fun h hc => ?_) (fun h hc => ?_)
  · refine r_ifT mx_219 li_219_21 (by decide) rfl hc ?_
    refine EV_stq mx_219 (pc' := 41) (L' := [some (.ref p0), some (.int p1), some (.int v1), some (.int (v1 + v3))]) (st' := [.ref p0, .int (v1 + v3), .int v1, .int p1]) bo_219_37_fd63c8 rfl ?_
    refine r_gA mx_219 li_219_41 fd_0_15 rfl h (fun a7 h => ?_)
    cases h
  · refine r_ifF mx_219 li_219_21 (by decide) hc ?_
    refine EV_stq mx_219 (pc' := 27) (L' := [some (.ref p0), some (.int p1), some (.int v1), some (.int (v1 + v3))]) (st' := [.ref p0, .int (v1 + v3), .int p1]) bo_219_24_d979aa rfl ?_
    refine r_gA mx_219 li_219_27 fd_0_15 rfl h (fun a8 h => ?_)
    refine h_cI h (fun v10 M9 e h => ?_)
    refine EV_call [.int p1, .int (v1 + v3), .ref a8] [] mx_219 li_219_30 rfl rfl si_0_248 rfl (by decide) (by decide) (by omega) ma_218 rfl (Nat.le_of_ble_eq_true rfl) rfl rfl (Nat.le_of_ble_eq_true rfl) rfl (e_in_getChars (by omega) p1 (v1 + v3) a8 M5 _ e) ?_
    show EV d 219 33 [some (.ref p0), some (.int p1), some (.int v1), some (.int (v1 + v3))] [.int v10] M9 _
    refine EV_stq mx_219 (pc' := 50) (L' := [some (.ref p0), some (.int p1), some (.int v1), some (.int (v1 + v3))]) (st' := [.int (v1 + v3), .ref p0]) bo_219_33_ce7b40 rfl ?_
    refine r_pI mx_219 li_219_50 fd_0_79 (Or.inl rfl) rfl h (fun M11 h => ?_)
    refine EV_stq mx_219 (pc' := 54) (L' := [some (.ref p0), some (.int p1), some (.int v1), some (.int (v1 + v3))]) (st' := [.ref p0]) bo_219_53_a422c0 rfl ?_
    obtain rfl := Option.some.inj h
    exact r_ret mx_219 li_219_54 rfl rfl
theorem e_sb_append1 {d : Nat} (hd : 5 ≤ d) (p0 : Nat) (p1 : Int32) (M : Mem) (r : Option Nat × Mem) (h : f_sb_append1 p0 p1 M = some r) : EV d 220 0 (entL 2 [.ref p0, .int p1]) [] M (some (rfv r.1), r.2) := by
  show EV d 220 0 [some (.ref p0), some (.int p1)] [] M _
  unfold f_sb_append1 at h
  refine EV_stq mx_220 (pc' := 2) (L' := [some (.ref p0), some (.int p1)]) (st' := [.int p1, .ref p0]) bo_220_0_264884 rfl ?_
  refine h_ck h (fun hc h => ?_)
  refine h_cR h (fun o2 M1 e h => ?_)
  refine EV_call [.ref p0, .int p1] [] mx_220 li_220_2 rfl rfl si_1_53 rfl (by decide) (by decide) (by omega) ma_219 rfl (Nat.le_of_ble_eq_true rfl) rfl rfl (Nat.le_of_ble_eq_true rfl) (rc_34 (by decide) hc) (e_ab_append1 (by omega) p0 p1 M _ e) ?_
  refine h_onR (G := fun o => EV d 220 5 [some (.ref p0), some (.int p1)] [rfv o] M1 _) h (fun h => ?_) (fun a3 h => ?_)
  · refine EV_stq mx_220 (pc' := 7) (L' := [some (.ref p0), some (.int p1)]) (st' := [.ref p0]) bo_220_5_ca77c4 rfl ?_
    obtain rfl := Option.some.inj h
    exact r_ret mx_220 li_220_7 rfl rfl
  · refine EV_stq mx_220 (pc' := 7) (L' := [some (.ref p0), some (.int p1)]) (st' := [.ref p0]) bo_220_5_ca77c4 rfl ?_
    obtain rfl := Option.some.inj h
    exact r_ret mx_220 li_220_7 rfl rfl
theorem e_x_writeStage_114 {d : Nat} (hd : 6 ≤ d) (l0 : Nat) (l1 : Nat) (M : Mem) (r : Mem) (h : f_x_writeStage_114 l0 l1 M = some r) : EV d 221 114 [some (.ref l0), some (.ref l1), none] [] M (none, r) := by
  unfold f_x_writeStage_114 at h
  refine EV_stq mx_221 (pc' := 115) (L' := [some (.ref l0), some (.ref l1), none]) (st' := [.ref l1]) bo_221_114_28d19b rfl ?_
  refine r_gI mx_221 li_221_115 fd_13_165 ⟨by decide, by decide⟩ h (fun v1 h => ?_)
  refine EV_stq mx_221 (pc' := 119) (L' := [some (.ref l0), some (.ref l1), none]) (st' := [.int (1 : Int32), .int v1]) bo_221_118_c412ec rfl ?_
  refine h_le h (fun h hc => ?_) (fun h hc => ?_)
  · refine r_icT mx_221 li_221_119 (by decide) rfl hc ?_
    obtain rfl := Option.some.inj h
    exact r_ret mx_221 li_221_134 rfl rfl
  · refine r_icF mx_221 li_221_119 (by decide) hc ?_
    refine EV_stq mx_221 (pc' := 123) (L' := [some (.ref l0), some (.ref l1), none]) (st' := [.ref l0]) bo_221_122_61bca2 rfl ?_
    refine r_gA mx_221 li_221_123 fd_13_16 rfl h (fun a2 h => ?_)
    refine EV_stq mx_221 (pc' := 127) (L' := [some (.ref l0), some (.ref l1), none]) (st' := [.ref l1, .ref a2]) bo_221_126_5d1f94 rfl ?_
    refine r_gI mx_221 li_221_127 fd_13_165 ⟨by decide, by decide⟩ h (fun v3 h => ?_)
    refine h_ck h (fun hc h => ?_)
    refine h_cR h (fun o5 M4 e h => ?_)
    refine EV_call [.ref a2, .int v3] [] mx_221 li_221_130 rfl rfl si_13_282 rfl (by decide) (by decide) (by omega) ma_220 rfl (Nat.le_of_ble_eq_true rfl) rfl rfl (Nat.le_of_ble_eq_true rfl) (rc_1 mt_at_220 rfl rfl (by decide) hc) (e_sb_append1 (by omega) a2 v3 M _ e) ?_
    refine h_onR (G := fun o => EV d 221 133 [some (.ref l0), some (.ref l1), none] [rfv o] M4 _) h (fun h => ?_) (fun a6 h => ?_)
    · refine EV_stq mx_221 (pc' := 134) (L' := [some (.ref l0), some (.ref l1), none]) (st' := []) bo_221_133_fe448f rfl ?_
      obtain rfl := Option.some.inj h
      exact r_ret mx_221 li_221_134 rfl rfl
    · refine EV_stq mx_221 (pc' := 134) (L' := [some (.ref l0), some (.ref l1), none]) (st' := []) bo_221_133_fe448f rfl ?_
      obtain rfl := Option.some.inj h
      exact r_ret mx_221 li_221_134 rfl rfl
theorem e_x_writeStage_104 {d : Nat} (hd : 6 ≤ d) (l0 : Nat) (l1 : Nat) (M : Mem) (r : Mem) (h : f_x_writeStage_104 l0 l1 M = some r) : EV d 221 104 [some (.ref l0), some (.ref l1), none] [] M (none, r) := by
  unfold f_x_writeStage_104 at h
  refine EV_stq mx_221 (pc' := 105) (L' := [some (.ref l0), some (.ref l1), none]) (st' := [.ref l0]) bo_221_104_a38d21 rfl ?_
  refine r_gA mx_221 li_221_105 fd_13_16 rfl h (fun a1 h => ?_)
  refine EV_stq mx_221 (pc' := 110) (L' := [some (.ref l0), some (.ref l1), none]) (st' := [.int (41 : Int32), .ref a1]) bo_221_108_99d569 rfl ?_
  refine h_ck h (fun hc h => ?_)
  refine h_cR h (fun o3 M2 e h => ?_)
  refine EV_call [.ref a1, .int (41 : Int32)] [] mx_221 li_221_110 rfl rfl si_13_57 rfl (by decide) (by decide) (by omega) ma_27 rfl (Nat.le_of_ble_eq_true rfl) rfl rfl (Nat.le_of_ble_eq_true rfl) (rc_1 mt_at_27 rfl rfl (by decide) hc) (e_sb_append0 (by omega) a1 (41 : Int32) M _ e) ?_
  refine h_onR (G := fun o => EV d 221 113 [some (.ref l0), some (.ref l1), none] [rfv o] M2 _) h (fun h => ?_) (fun a4 h => ?_)
  · refine EV_stq mx_221 (pc' := 114) (L' := [some (.ref l0), some (.ref l1), none]) (st' := []) bo_221_113_1912b2 rfl ?_
    exact e_x_writeStage_114 hd l0 l1 M2 r h
  · refine EV_stq mx_221 (pc' := 114) (L' := [some (.ref l0), some (.ref l1), none]) (st' := []) bo_221_113_1912b2 rfl ?_
    exact e_x_writeStage_114 hd l0 l1 M2 r h
theorem e_x_writeStage {d : Nat} (hd : 6 ≤ d) (p0 : Nat) (p1 : Option Nat) (M : Mem) (r : Mem) (h : f_x_writeStage p0 p1 M = some r) : EV d 221 0 (entL 3 [.ref p0, rfv p1]) [] M (none, r) := by
  unfold f_x_writeStage at h
  refine h_onR (G := fun o => EV d 221 0 [some (.ref p0), some (rfv o), none] [] M _) h (fun h => ?_) (fun a1 h => ?_)
  · refine EV_stq mx_221 (pc' := 24) (L' := [some (.ref p0), some (.null), none]) (st' := []) bo_221_0_264884 rfl ?_
    obtain rfl := Option.some.inj h
    exact r_ret mx_221 li_221_24 rfl rfl
  · refine EV_stq mx_221 (pc' := 5) (L' := [some (.ref p0), some (.ref a1), none]) (st' := [.ref a1]) bo_221_0_d43a48 rfl ?_
    refine r_gI mx_221 li_221_5 fd_13_160 ⟨by decide, by decide⟩ h (fun v2 h => ?_)
    refine h_lt h (fun h hc => ?_) (fun h hc => ?_)
    · refine r_ifT mx_221 li_221_8 (by decide) rfl hc ?_
      obtain rfl := Option.some.inj h
      exact r_ret mx_221 li_221_24 rfl rfl
    · refine r_ifF mx_221 li_221_8 (by decide) hc ?_
      refine EV_stq mx_221 (pc' := 12) (L' := [some (.ref p0), some (.ref a1), none]) (st' := [.ref a1]) bo_221_11_081257 rfl ?_
      refine r_gI mx_221 li_221_12 fd_13_160 ⟨by decide, by decide⟩ h (fun v3 h => ?_)
      refine EV_stq mx_221 (pc' := 18) (L' := [some (.ref p0), some (.ref a1), none]) (st' := [.retAddr 3, .int v3]) bo_221_15_be4250 rfl ?_
      refine h_cI h (fun v5 M4 e h => ?_)
      refine EV_call [.retAddr 3] [.int v3] mx_221 li_221_18 rfl rfl si_13_309 rfl (by decide) (by decide) (by omega) ma_38 rfl (Nat.le_of_ble_eq_true rfl) rfl rfl (Nat.le_of_ble_eq_true rfl) rfl (e_st_length (by omega)  M _ e) ?_
      show EV d 221 21 [some (.ref p0), some (.ref a1), none] [.int v5, .int v3] M4 _
      refine h_lt h (fun h hc => ?_) (fun h hc => ?_)
      · refine r_icT mx_221 li_221_21 (by decide) rfl hc ?_
        refine EV_stq mx_221 (pc' := 26) (L' := [some (.ref p0), some (.ref a1), none]) (st' := [.ref p0]) bo_221_25_1858f6 rfl ?_
        refine r_gA mx_221 li_221_26 fd_13_16 rfl h (fun a6 h => ?_)
        refine EV_stq mx_221 (pc' := 33) (L' := [some (.ref p0), some (.ref a1), none]) (st' := [.ref a1, .retAddr 3, .ref a6]) bo_221_29_ce94c9 rfl ?_
        refine r_gI mx_221 li_221_33 fd_13_160 ⟨by decide, by decide⟩ h (fun v7 h => ?_)
        refine h_cI h (fun v9 M8 e h => ?_)
        refine EV_call [.retAddr 3, .int v7] [.ref a6] mx_221 li_221_36 rfl rfl si_13_312 rfl (by decide) (by decide) (by omega) ma_216 rfl (Nat.le_of_ble_eq_true rfl) rfl rfl (Nat.le_of_ble_eq_true rfl) rfl (e_st_charAt (by omega) v7 M4 _ e) ?_
        show EV d 221 39 [some (.ref p0), some (.ref a1), none] [.int v9, .ref a6] M8 _
        refine h_ck h (fun hc h => ?_)
        refine h_cR h (fun o11 M10 e h => ?_)
        refine EV_call [.ref a6, .int v9] [] mx_221 li_221_39 rfl rfl si_13_57 rfl (by decide) (by decide) (by omega) ma_27 rfl (Nat.le_of_ble_eq_true rfl) rfl rfl (Nat.le_of_ble_eq_true rfl) (rc_1 mt_at_27 rfl rfl (by decide) hc) (e_sb_append0 (by omega) a6 v9 M8 _ e) ?_
        refine h_onR (G := fun o => EV d 221 42 [some (.ref p0), some (.ref a1), none] [rfv o] M10 _) h (fun h => ?_) (fun a12 h => ?_)
        · refine EV_stq mx_221 (pc' := 44) (L' := [some (.ref p0), some (.ref a1), none]) (st' := [.ref a1]) bo_221_42_610feb rfl ?_
          refine r_gI mx_221 li_221_44 fd_13_160 ⟨by decide, by decide⟩ h (fun v13 h => ?_)
          refine h_cI h (fun v15 M14 e h => ?_)
          refine EV_call [.int v13] [] mx_221 li_221_47 rfl rfl si_13_313 rfl (by decide) (by decide) (by omega) ma_44 rfl (Nat.le_of_ble_eq_true rfl) rfl rfl (Nat.le_of_ble_eq_true rfl) rfl (e_x_numbersOf (by omega) v13 M10 _ e) ?_
          show EV d 221 50 [some (.ref p0), some (.ref a1), none] [.int v15] M14 _
          refine EV_stq mx_221 (pc' := 52) (L' := [some (.ref p0), some (.ref a1), some (.int v15)]) (st' := [.int v15]) bo_221_50_b22ebb rfl ?_
          refine h_le h (fun h hc => ?_) (fun h hc => ?_)
          · refine r_ifT mx_221 li_221_52 (by decide) rfl hc ?_
            refine EV_forget (A := [some (.ref p0), some (.ref a1), none]) (lsub_of _ _ ⟨Or.inr rfl, ⟨Or.inr rfl, ⟨Or.inl rfl, trivial⟩⟩⟩) ?_
            exact e_x_writeStage_114 hd p0 a1 M14 r h
          · refine r_ifF mx_221 li_221_52 (by decide) hc ?_
            refine EV_stq mx_221 (pc' := 56) (L' := [some (.ref p0), some (.ref a1), some (.int v15)]) (st' := [.ref p0]) bo_221_55_bd1207 rfl ?_
            refine r_gA mx_221 li_221_56 fd_13_16 rfl h (fun a16 h => ?_)
            refine EV_stq mx_221 (pc' := 61) (L' := [some (.ref p0), some (.ref a1), some (.int v15)]) (st' := [.int (40 : Int32), .ref a16]) bo_221_59_8c3b95 rfl ?_
            refine h_ck h (fun hc h => ?_)
            refine h_cR h (fun o18 M17 e h => ?_)
            refine EV_call [.ref a16, .int (40 : Int32)] [] mx_221 li_221_61 rfl rfl si_13_57 rfl (by decide) (by decide) (by omega) ma_27 rfl (Nat.le_of_ble_eq_true rfl) rfl rfl (Nat.le_of_ble_eq_true rfl) (rc_1 mt_at_27 rfl rfl (by decide) hc) (e_sb_append0 (by omega) a16 (40 : Int32) M14 _ e) ?_
            refine h_onR (G := fun o => EV d 221 64 [some (.ref p0), some (.ref a1), some (.int v15)] [rfv o] M17 _) h (fun h => ?_) (fun a19 h => ?_)
            · refine EV_stq mx_221 (pc' := 66) (L' := [some (.ref p0), some (.ref a1), some (.int v15)]) (st' := [.ref p0]) bo_221_64_23d05d rfl ?_
              refine r_gA mx_221 li_221_66 fd_13_16 rfl h (fun a20 h => ?_)
              refine EV_stq mx_221 (pc' := 70) (L' := [some (.ref p0), some (.ref a1), some (.int v15)]) (st' := [.ref a1, .ref a20]) bo_221_69_d2296b rfl ?_
              refine r_gI mx_221 li_221_70 fd_13_166 ⟨by decide, by decide⟩ h (fun v21 h => ?_)
              refine h_ck h (fun hc h => ?_)
              refine h_cR h (fun o23 M22 e h => ?_)
              refine EV_call [.ref a20, .int v21] [] mx_221 li_221_73 rfl rfl si_13_282 rfl (by decide) (by decide) (by omega) ma_220 rfl (Nat.le_of_ble_eq_true rfl) rfl rfl (Nat.le_of_ble_eq_true rfl) (rc_1 mt_at_220 rfl rfl (by decide) hc) (e_sb_append1 (by omega) a20 v21 M17 _ e) ?_
              refine h_onR (G := fun o => EV d 221 76 [some (.ref p0), some (.ref a1), some (.int v15)] [rfv o] M22 _) h (fun h => ?_) (fun a24 h => ?_)
              · refine EV_stq mx_221 (pc' := 79) (L' := [some (.ref p0), some (.ref a1), some (.int v15)]) (st' := [.int (1 : Int32), .int v15]) bo_221_76_98eb4c rfl ?_
                refine h_le h (fun h hc => ?_) (fun h hc => ?_)
                · refine r_icT mx_221 li_221_79 (by decide) rfl hc ?_
                  refine EV_forget (A := [some (.ref p0), some (.ref a1), none]) (lsub_of _ _ ⟨Or.inr rfl, ⟨Or.inr rfl, ⟨Or.inl rfl, trivial⟩⟩⟩) ?_
                  exact e_x_writeStage_104 hd p0 a1 M22 r h
                · refine r_icF mx_221 li_221_79 (by decide) hc ?_
                  refine EV_stq mx_221 (pc' := 83) (L' := [some (.ref p0), some (.ref a1), some (.int v15)]) (st' := [.ref p0]) bo_221_82_d3719d rfl ?_
                  refine r_gA mx_221 li_221_83 fd_13_16 rfl h (fun a25 h => ?_)
                  refine EV_stq mx_221 (pc' := 88) (L' := [some (.ref p0), some (.ref a1), some (.int v15)]) (st' := [.int (44 : Int32), .ref a25]) bo_221_86_bff005 rfl ?_
                  refine h_ck h (fun hc h => ?_)
                  refine h_cR h (fun o27 M26 e h => ?_)
                  refine EV_call [.ref a25, .int (44 : Int32)] [] mx_221 li_221_88 rfl rfl si_13_57 rfl (by decide) (by decide) (by omega) ma_27 rfl (Nat.le_of_ble_eq_true rfl) rfl rfl (Nat.le_of_ble_eq_true rfl) (rc_1 mt_at_27 rfl rfl (by decide) hc) (e_sb_append0 (by omega) a25 (44 : Int32) M22 _ e) ?_
                  refine h_onR (G := fun o => EV d 221 91 [some (.ref p0), some (.ref a1), some (.int v15)] [rfv o] M26 _) h (fun h => ?_) (fun a28 h => ?_)
                  · refine EV_stq mx_221 (pc' := 93) (L' := [some (.ref p0), some (.ref a1), some (.int v15)]) (st' := [.ref p0]) bo_221_91_e197d6 rfl ?_
                    refine r_gA mx_221 li_221_93 fd_13_16 rfl h (fun a29 h => ?_)
                    refine EV_stq mx_221 (pc' := 97) (L' := [some (.ref p0), some (.ref a1), some (.int v15)]) (st' := [.ref a1, .ref a29]) bo_221_96_2375ef rfl ?_
                    refine r_gI mx_221 li_221_97 fd_13_169 ⟨by decide, by decide⟩ h (fun v30 h => ?_)
                    refine h_ck h (fun hc h => ?_)
                    refine h_cR h (fun o32 M31 e h => ?_)
                    refine EV_call [.ref a29, .int v30] [] mx_221 li_221_100 rfl rfl si_13_282 rfl (by decide) (by decide) (by omega) ma_220 rfl (Nat.le_of_ble_eq_true rfl) rfl rfl (Nat.le_of_ble_eq_true rfl) (rc_1 mt_at_220 rfl rfl (by decide) hc) (e_sb_append1 (by omega) a29 v30 M26 _ e) ?_
                    refine h_onR (G := fun o => EV d 221 103 [some (.ref p0), some (.ref a1), some (.int v15)] [rfv o] M31 _) h (fun h => ?_) (fun a33 h => ?_)
                    · refine EV_stq mx_221 (pc' := 104) (L' := [some (.ref p0), some (.ref a1), some (.int v15)]) (st' := []) bo_221_103_98f00a rfl ?_
                      refine EV_forget (A := [some (.ref p0), some (.ref a1), none]) (lsub_of _ _ ⟨Or.inr rfl, ⟨Or.inr rfl, ⟨Or.inl rfl, trivial⟩⟩⟩) ?_
                      exact e_x_writeStage_104 hd p0 a1 M31 r h
                    · refine EV_stq mx_221 (pc' := 104) (L' := [some (.ref p0), some (.ref a1), some (.int v15)]) (st' := []) bo_221_103_98f00a rfl ?_
                      refine EV_forget (A := [some (.ref p0), some (.ref a1), none]) (lsub_of _ _ ⟨Or.inr rfl, ⟨Or.inr rfl, ⟨Or.inl rfl, trivial⟩⟩⟩) ?_
                      exact e_x_writeStage_104 hd p0 a1 M31 r h
                  · refine EV_stq mx_221 (pc' := 93) (L' := [some (.ref p0), some (.ref a1), some (.int v15)]) (st' := [.ref p0]) bo_221_91_e197d6 rfl ?_
                    refine r_gA mx_221 li_221_93 fd_13_16 rfl h (fun a34 h => ?_)
                    refine EV_stq mx_221 (pc' := 97) (L' := [some (.ref p0), some (.ref a1), some (.int v15)]) (st' := [.ref a1, .ref a34]) bo_221_96_2375ef rfl ?_
                    refine r_gI mx_221 li_221_97 fd_13_169 ⟨by decide, by decide⟩ h (fun v35 h => ?_)
                    refine h_ck h (fun hc h => ?_)
                    refine h_cR h (fun o37 M36 e h => ?_)
                    refine EV_call [.ref a34, .int v35] [] mx_221 li_221_100 rfl rfl si_13_282 rfl (by decide) (by decide) (by omega) ma_220 rfl (Nat.le_of_ble_eq_true rfl) rfl rfl (Nat.le_of_ble_eq_true rfl) (rc_1 mt_at_220 rfl rfl (by decide) hc) (e_sb_append1 (by omega) a34 v35 M26 _ e) ?_
                    refine h_onR (G := fun o => EV d 221 103 [some (.ref p0), some (.ref a1), some (.int v15)] [rfv o] M36 _) h (fun h => ?_) (fun a38 h => ?_)
                    · refine EV_stq mx_221 (pc' := 104) (L' := [some (.ref p0), some (.ref a1), some (.int v15)]) (st' := []) bo_221_103_98f00a rfl ?_
                      refine EV_forget (A := [some (.ref p0), some (.ref a1), none]) (lsub_of _ _ ⟨Or.inr rfl, ⟨Or.inr rfl, ⟨Or.inl rfl, trivial⟩⟩⟩) ?_
                      exact e_x_writeStage_104 hd p0 a1 M36 r h
                    · refine EV_stq mx_221 (pc' := 104) (L' := [some (.ref p0), some (.ref a1), some (.int v15)]) (st' := []) bo_221_103_98f00a rfl ?_
                      refine EV_forget (A := [some (.ref p0), some (.ref a1), none]) (lsub_of _ _ ⟨Or.inr rfl, ⟨Or.inr rfl, ⟨Or.inl rfl, trivial⟩⟩⟩) ?_
                      exact e_x_writeStage_104 hd p0 a1 M36 r h
              · refine EV_stq mx_221 (pc' := 79) (L' := [some (.ref p0), some (.ref a1), some (.int v15)]) (st' := [.int (1 : Int32), .int v15]) bo_221_76_98eb4c rfl ?_
                refine h_le h (fun h hc => ?_) (fun h hc => ?_)
                · refine r_icT mx_221 li_221_79 (by decide) rfl hc ?_
                  refine EV_forget (A := [some (.ref p0), some (.ref a1), none]) (lsub_of _ _ ⟨Or.inr rfl, ⟨Or.inr rfl, ⟨Or.inl rfl, trivial⟩⟩⟩) ?_
                  exact e_x_writeStage_104 hd p0 a1 M22 r h
                · refine r_icF mx_221 li_221_79 (by decide) hc ?_
                  refine EV_stq mx_221 (pc' := 83) (L' := [some (.ref p0), some (.ref a1), some (.int v15)]) (st' := [.ref p0]) bo_221_82_d3719d rfl ?_
                  refine r_gA mx_221 li_221_83 fd_13_16 rfl h (fun a39 h => ?_)
                  refine EV_stq mx_221 (pc' := 88) (L' := [some (.ref p0), some (.ref a1), some (.int v15)]) (st' := [.int (44 : Int32), .ref a39]) bo_221_86_bff005 rfl ?_
                  refine h_ck h (fun hc h => ?_)
                  refine h_cR h (fun o41 M40 e h => ?_)
                  refine EV_call [.ref a39, .int (44 : Int32)] [] mx_221 li_221_88 rfl rfl si_13_57 rfl (by decide) (by decide) (by omega) ma_27 rfl (Nat.le_of_ble_eq_true rfl) rfl rfl (Nat.le_of_ble_eq_true rfl) (rc_1 mt_at_27 rfl rfl (by decide) hc) (e_sb_append0 (by omega) a39 (44 : Int32) M22 _ e) ?_
                  refine h_onR (G := fun o => EV d 221 91 [some (.ref p0), some (.ref a1), some (.int v15)] [rfv o] M40 _) h (fun h => ?_) (fun a42 h => ?_)
                  · refine EV_stq mx_221 (pc' := 93) (L' := [some (.ref p0), some (.ref a1), some (.int v15)]) (st' := [.ref p0]) bo_221_91_e197d6 rfl ?_
                    refine r_gA mx_221 li_221_93 fd_13_16 rfl h (fun a43 h => ?_)
                    refine EV_stq mx_221 (pc' := 97) (L' := [some (.ref p0), some (.ref a1), some (.int v15)]) (st' := [.ref a1, .ref a43]) bo_221_96_2375ef rfl ?_
                    refine r_gI mx_221 li_221_97 fd_13_169 ⟨by decide, by decide⟩ h (fun v44 h => ?_)
                    refine h_ck h (fun hc h => ?_)
                    refine h_cR h (fun o46 M45 e h => ?_)
                    refine EV_call [.ref a43, .int v44] [] mx_221 li_221_100 rfl rfl si_13_282 rfl (by decide) (by decide) (by omega) ma_220 rfl (Nat.le_of_ble_eq_true rfl) rfl rfl (Nat.le_of_ble_eq_true rfl) (rc_1 mt_at_220 rfl rfl (by decide) hc) (e_sb_append1 (by omega) a43 v44 M40 _ e) ?_
                    refine h_onR (G := fun o => EV d 221 103 [some (.ref p0), some (.ref a1), some (.int v15)] [rfv o] M45 _) h (fun h => ?_) (fun a47 h => ?_)
                    · refine EV_stq mx_221 (pc' := 104) (L' := [some (.ref p0), some (.ref a1), some (.int v15)]) (st' := []) bo_221_103_98f00a rfl ?_
                      refine EV_forget (A := [some (.ref p0), some (.ref a1), none]) (lsub_of _ _ ⟨Or.inr rfl, ⟨Or.inr rfl, ⟨Or.inl rfl, trivial⟩⟩⟩) ?_
                      exact e_x_writeStage_104 hd p0 a1 M45 r h
                    · refine EV_stq mx_221 (pc' := 104) (L' := [some (.ref p0), some (.ref a1), some (.int v15)]) (st' := []) bo_221_103_98f00a rfl ?_
                      refine EV_forget (A := [some (.ref p0), some (.ref a1), none]) (lsub_of _ _ ⟨Or.inr rfl, ⟨Or.inr rfl, ⟨Or.inl rfl, trivial⟩⟩⟩) ?_
                      exact e_x_writeStage_104 hd p0 a1 M45 r h
                  · refine EV_stq mx_221 (pc' := 93) (L' := [some (.ref p0), some (.ref a1), some (.int v15)]) (st' := [.ref p0]) bo_221_91_e197d6 rfl ?_
                    refine r_gA mx_221 li_221_93 fd_13_16 rfl h (fun a48 h => ?_)
                    refine EV_stq mx_221 (pc' := 97) (L' := [some (.ref p0), some (.ref a1), some (.int v15)]) (st' := [.ref a1, .ref a48]) bo_221_96_2375ef rfl ?_
                    refine r_gI mx_221 li_221_97 fd_13_169 ⟨by decide, by decide⟩ h (fun v49 h => ?_)
                    refine h_ck h (fun hc h => ?_)
                    refine h_cR h (fun o51 M50 e h => ?_)
                    refine EV_call [.ref a48, .int v49] [] mx_221 li_221_100 rfl rfl si_13_282 rfl (by decide) (by decide) (by omega) ma_220 rfl (Nat.le_of_ble_eq_true rfl) rfl rfl (Nat.le_of_ble_eq_true rfl) (rc_1 mt_at_220 rfl rfl (by decide) hc) (e_sb_append1 (by omega) a48 v49 M40 _ e) ?_
                    refine h_onR (G := fun o => EV d 221 103 [some (.ref p0), some (.ref a1), some (.int v15)] [rfv o] M50 _) h (fun h => ?_) (fun a52 h => ?_)
                    · refine EV_stq mx_221 (pc' := 104) (L' := [some (.ref p0), some (.ref a1), some (.int v15)]) (st' := []) bo_221_103_98f00a rfl ?_
                      refine EV_forget (A := [some (.ref p0), some (.ref a1), none]) (lsub_of _ _ ⟨Or.inr rfl, ⟨Or.inr rfl, ⟨Or.inl rfl, trivial⟩⟩⟩) ?_
                      exact e_x_writeStage_104 hd p0 a1 M50 r h
                    · refine EV_stq mx_221 (pc' := 104) (L' := [some (.ref p0), some (.ref a1), some (.int v15)]) (st' := []) bo_221_103_98f00a rfl ?_
                      refine EV_forget (A := [some (.ref p0), some (.ref a1), none]) (lsub_of _ _ ⟨Or.inr rfl, ⟨Or.inr rfl, ⟨Or.inl rfl, trivial⟩⟩⟩) ?_
                      exact e_x_writeStage_104 hd p0 a1 M50 r h
            · refine EV_stq mx_221 (pc' := 66) (L' := [some (.ref p0), some (.ref a1), some (.int v15)]) (st' := [.ref p0]) bo_221_64_23d05d rfl ?_
              refine r_gA mx_221 li_221_66 fd_13_16 rfl h (fun a53 h => ?_)
              refine EV_stq mx_221 (pc' := 70) (L' := [some (.ref p0), some (.ref a1), some (.int v15)]) (st' := [.ref a1, .ref a53]) bo_221_69_d2296b rfl ?_
              refine r_gI mx_221 li_221_70 fd_13_166 ⟨by decide, by decide⟩ h (fun v54 h => ?_)
              refine h_ck h (fun hc h => ?_)
              refine h_cR h (fun o56 M55 e h => ?_)
              refine EV_call [.ref a53, .int v54] [] mx_221 li_221_73 rfl rfl si_13_282 rfl (by decide) (by decide) (by omega) ma_220 rfl (Nat.le_of_ble_eq_true rfl) rfl rfl (Nat.le_of_ble_eq_true rfl) (rc_1 mt_at_220 rfl rfl (by decide) hc) (e_sb_append1 (by omega) a53 v54 M17 _ e) ?_
              refine h_onR (G := fun o => EV d 221 76 [some (.ref p0), some (.ref a1), some (.int v15)] [rfv o] M55 _) h (fun h => ?_) (fun a57 h => ?_)
              · refine EV_stq mx_221 (pc' := 79) (L' := [some (.ref p0), some (.ref a1), some (.int v15)]) (st' := [.int (1 : Int32), .int v15]) bo_221_76_98eb4c rfl ?_
                refine h_le h (fun h hc => ?_) (fun h hc => ?_)
                · refine r_icT mx_221 li_221_79 (by decide) rfl hc ?_
                  refine EV_forget (A := [some (.ref p0), some (.ref a1), none]) (lsub_of _ _ ⟨Or.inr rfl, ⟨Or.inr rfl, ⟨Or.inl rfl, trivial⟩⟩⟩) ?_
                  exact e_x_writeStage_104 hd p0 a1 M55 r h
                · refine r_icF mx_221 li_221_79 (by decide) hc ?_
                  refine EV_stq mx_221 (pc' := 83) (L' := [some (.ref p0), some (.ref a1), some (.int v15)]) (st' := [.ref p0]) bo_221_82_d3719d rfl ?_
                  refine r_gA mx_221 li_221_83 fd_13_16 rfl h (fun a58 h => ?_)
                  refine EV_stq mx_221 (pc' := 88) (L' := [some (.ref p0), some (.ref a1), some (.int v15)]) (st' := [.int (44 : Int32), .ref a58]) bo_221_86_bff005 rfl ?_
                  refine h_ck h (fun hc h => ?_)
                  refine h_cR h (fun o60 M59 e h => ?_)
                  refine EV_call [.ref a58, .int (44 : Int32)] [] mx_221 li_221_88 rfl rfl si_13_57 rfl (by decide) (by decide) (by omega) ma_27 rfl (Nat.le_of_ble_eq_true rfl) rfl rfl (Nat.le_of_ble_eq_true rfl) (rc_1 mt_at_27 rfl rfl (by decide) hc) (e_sb_append0 (by omega) a58 (44 : Int32) M55 _ e) ?_
                  refine h_onR (G := fun o => EV d 221 91 [some (.ref p0), some (.ref a1), some (.int v15)] [rfv o] M59 _) h (fun h => ?_) (fun a61 h => ?_)
                  · refine EV_stq mx_221 (pc' := 93) (L' := [some (.ref p0), some (.ref a1), some (.int v15)]) (st' := [.ref p0]) bo_221_91_e197d6 rfl ?_
                    refine r_gA mx_221 li_221_93 fd_13_16 rfl h (fun a62 h => ?_)
                    refine EV_stq mx_221 (pc' := 97) (L' := [some (.ref p0), some (.ref a1), some (.int v15)]) (st' := [.ref a1, .ref a62]) bo_221_96_2375ef rfl ?_
                    refine r_gI mx_221 li_221_97 fd_13_169 ⟨by decide, by decide⟩ h (fun v63 h => ?_)
                    refine h_ck h (fun hc h => ?_)
                    refine h_cR h (fun o65 M64 e h => ?_)
                    refine EV_call [.ref a62, .int v63] [] mx_221 li_221_100 rfl rfl si_13_282 rfl (by decide) (by decide) (by omega) ma_220 rfl (Nat.le_of_ble_eq_true rfl) rfl rfl (Nat.le_of_ble_eq_true rfl) (rc_1 mt_at_220 rfl rfl (by decide) hc) (e_sb_append1 (by omega) a62 v63 M59 _ e) ?_
                    refine h_onR (G := fun o => EV d 221 103 [some (.ref p0), some (.ref a1), some (.int v15)] [rfv o] M64 _) h (fun h => ?_) (fun a66 h => ?_)
                    · refine EV_stq mx_221 (pc' := 104) (L' := [some (.ref p0), some (.ref a1), some (.int v15)]) (st' := []) bo_221_103_98f00a rfl ?_
                      refine EV_forget (A := [some (.ref p0), some (.ref a1), none]) (lsub_of _ _ ⟨Or.inr rfl, ⟨Or.inr rfl, ⟨Or.inl rfl, trivial⟩⟩⟩) ?_
                      exact e_x_writeStage_104 hd p0 a1 M64 r h
                    · refine EV_stq mx_221 (pc' := 104) (L' := [some (.ref p0), some (.ref a1), some (.int v15)]) (st' := []) bo_221_103_98f00a rfl ?_
                      refine EV_forget (A := [some (.ref p0), some (.ref a1), none]) (lsub_of _ _ ⟨Or.inr rfl, ⟨Or.inr rfl, ⟨Or.inl rfl, trivial⟩⟩⟩) ?_
                      exact e_x_writeStage_104 hd p0 a1 M64 r h
                  · refine EV_stq mx_221 (pc' := 93) (L' := [some (.ref p0), some (.ref a1), some (.int v15)]) (st' := [.ref p0]) bo_221_91_e197d6 rfl ?_
                    refine r_gA mx_221 li_221_93 fd_13_16 rfl h (fun a67 h => ?_)
                    refine EV_stq mx_221 (pc' := 97) (L' := [some (.ref p0), some (.ref a1), some (.int v15)]) (st' := [.ref a1, .ref a67]) bo_221_96_2375ef rfl ?_
                    refine r_gI mx_221 li_221_97 fd_13_169 ⟨by decide, by decide⟩ h (fun v68 h => ?_)
                    refine h_ck h (fun hc h => ?_)
                    refine h_cR h (fun o70 M69 e h => ?_)
                    refine EV_call [.ref a67, .int v68] [] mx_221 li_221_100 rfl rfl si_13_282 rfl (by decide) (by decide) (by omega) ma_220 rfl (Nat.le_of_ble_eq_true rfl) rfl rfl (Nat.le_of_ble_eq_true rfl) (rc_1 mt_at_220 rfl rfl (by decide) hc) (e_sb_append1 (by omega) a67 v68 M59 _ e) ?_
                    refine h_onR (G := fun o => EV d 221 103 [some (.ref p0), some (.ref a1), some (.int v15)] [rfv o] M69 _) h (fun h => ?_) (fun a71 h => ?_)
                    · refine EV_stq mx_221 (pc' := 104) (L' := [some (.ref p0), some (.ref a1), some (.int v15)]) (st' := []) bo_221_103_98f00a rfl ?_
                      refine EV_forget (A := [some (.ref p0), some (.ref a1), none]) (lsub_of _ _ ⟨Or.inr rfl, ⟨Or.inr rfl, ⟨Or.inl rfl, trivial⟩⟩⟩) ?_
                      exact e_x_writeStage_104 hd p0 a1 M69 r h
                    · refine EV_stq mx_221 (pc' := 104) (L' := [some (.ref p0), some (.ref a1), some (.int v15)]) (st' := []) bo_221_103_98f00a rfl ?_
                      refine EV_forget (A := [some (.ref p0), some (.ref a1), none]) (lsub_of _ _ ⟨Or.inr rfl, ⟨Or.inr rfl, ⟨Or.inl rfl, trivial⟩⟩⟩) ?_
                      exact e_x_writeStage_104 hd p0 a1 M69 r h
              · refine EV_stq mx_221 (pc' := 79) (L' := [some (.ref p0), some (.ref a1), some (.int v15)]) (st' := [.int (1 : Int32), .int v15]) bo_221_76_98eb4c rfl ?_
                refine h_le h (fun h hc => ?_) (fun h hc => ?_)
                · refine r_icT mx_221 li_221_79 (by decide) rfl hc ?_
                  refine EV_forget (A := [some (.ref p0), some (.ref a1), none]) (lsub_of _ _ ⟨Or.inr rfl, ⟨Or.inr rfl, ⟨Or.inl rfl, trivial⟩⟩⟩) ?_
                  exact e_x_writeStage_104 hd p0 a1 M55 r h
                · refine r_icF mx_221 li_221_79 (by decide) hc ?_
                  refine EV_stq mx_221 (pc' := 83) (L' := [some (.ref p0), some (.ref a1), some (.int v15)]) (st' := [.ref p0]) bo_221_82_d3719d rfl ?_
                  refine r_gA mx_221 li_221_83 fd_13_16 rfl h (fun a72 h => ?_)
                  refine EV_stq mx_221 (pc' := 88) (L' := [some (.ref p0), some (.ref a1), some (.int v15)]) (st' := [.int (44 : Int32), .ref a72]) bo_221_86_bff005 rfl ?_
                  refine h_ck h (fun hc h => ?_)
                  refine h_cR h (fun o74 M73 e h => ?_)
                  refine EV_call [.ref a72, .int (44 : Int32)] [] mx_221 li_221_88 rfl rfl si_13_57 rfl (by decide) (by decide) (by omega) ma_27 rfl (Nat.le_of_ble_eq_true rfl) rfl rfl (Nat.le_of_ble_eq_true rfl) (rc_1 mt_at_27 rfl rfl (by decide) hc) (e_sb_append0 (by omega) a72 (44 : Int32) M55 _ e) ?_
                  refine h_onR (G := fun o => EV d 221 91 [some (.ref p0), some (.ref a1), some (.int v15)] [rfv o] M73 _) h (fun h => ?_) (fun a75 h => ?_)
                  · refine EV_stq mx_221 (pc' := 93) (L' := [some (.ref p0), some (.ref a1), some (.int v15)]) (st' := [.ref p0]) bo_221_91_e197d6 rfl ?_
                    refine r_gA mx_221 li_221_93 fd_13_16 rfl h (fun a76 h => ?_)
                    refine EV_stq mx_221 (pc' := 97) (L' := [some (.ref p0), some (.ref a1), some (.int v15)]) (st' := [.ref a1, .ref a76]) bo_221_96_2375ef rfl ?_
                    refine r_gI mx_221 li_221_97 fd_13_169 ⟨by decide, by decide⟩ h (fun v77 h => ?_)
                    refine h_ck h (fun hc h => ?_)
                    refine h_cR h (fun o79 M78 e h => ?_)
                    refine EV_call [.ref a76, .int v77] [] mx_221 li_221_100 rfl rfl si_13_282 rfl (by decide) (by decide) (by omega) ma_220 rfl (Nat.le_of_ble_eq_true rfl) rfl rfl (Nat.le_of_ble_eq_true rfl) (rc_1 mt_at_220 rfl rfl (by decide) hc) (e_sb_append1 (by omega) a76 v77 M73 _ e) ?_
                    refine h_onR (G := fun o => EV d 221 103 [some (.ref p0), some (.ref a1), some (.int v15)] [rfv o] M78 _) h (fun h => ?_) (fun a80 h => ?_)
                    · refine EV_stq mx_221 (pc' := 104) (L' := [some (.ref p0), some (.ref a1), some (.int v15)]) (st' := []) bo_221_103_98f00a rfl ?_
                      refine EV_forget (A := [some (.ref p0), some (.ref a1), none]) (lsub_of _ _ ⟨Or.inr rfl, ⟨Or.inr rfl, ⟨Or.inl rfl, trivial⟩⟩⟩) ?_
                      exact e_x_writeStage_104 hd p0 a1 M78 r h
                    · refine EV_stq mx_221 (pc' := 104) (L' := [some (.ref p0), some (.ref a1), some (.int v15)]) (st' := []) bo_221_103_98f00a rfl ?_
                      refine EV_forget (A := [some (.ref p0), some (.ref a1), none]) (lsub_of _ _ ⟨Or.inr rfl, ⟨Or.inr rfl, ⟨Or.inl rfl, trivial⟩⟩⟩) ?_
                      exact e_x_writeStage_104 hd p0 a1 M78 r h
                  · refine EV_stq mx_221 (pc' := 93) (L' := [some (.ref p0), some (.ref a1), some (.int v15)]) (st' := [.ref p0]) bo_221_91_e197d6 rfl ?_
                    refine r_gA mx_221 li_221_93 fd_13_16 rfl h (fun a81 h => ?_)
                    refine EV_stq mx_221 (pc' := 97) (L' := [some (.ref p0), some (.ref a1), some (.int v15)]) (st' := [.ref a1, .ref a81]) bo_221_96_2375ef rfl ?_
                    refine r_gI mx_221 li_221_97 fd_13_169 ⟨by decide, by decide⟩ h (fun v82 h => ?_)
                    refine h_ck h (fun hc h => ?_)
                    refine h_cR h (fun o84 M83 e h => ?_)
                    refine EV_call [.ref a81, .int v82] [] mx_221 li_221_100 rfl rfl si_13_282 rfl (by decide) (by decide) (by omega) ma_220 rfl (Nat.le_of_ble_eq_true rfl) rfl rfl (Nat.le_of_ble_eq_true rfl) (rc_1 mt_at_220 rfl rfl (by decide) hc) (e_sb_append1 (by omega) a81 v82 M73 _ e) ?_
                    refine h_onR (G := fun o => EV d 221 103 [some (.ref p0), some (.ref a1), some (.int v15)] [rfv o] M83 _) h (fun h => ?_) (fun a85 h => ?_)
                    · refine EV_stq mx_221 (pc' := 104) (L' := [some (.ref p0), some (.ref a1), some (.int v15)]) (st' := []) bo_221_103_98f00a rfl ?_
                      refine EV_forget (A := [some (.ref p0), some (.ref a1), none]) (lsub_of _ _ ⟨Or.inr rfl, ⟨Or.inr rfl, ⟨Or.inl rfl, trivial⟩⟩⟩) ?_
                      exact e_x_writeStage_104 hd p0 a1 M83 r h
                    · refine EV_stq mx_221 (pc' := 104) (L' := [some (.ref p0), some (.ref a1), some (.int v15)]) (st' := []) bo_221_103_98f00a rfl ?_
                      refine EV_forget (A := [some (.ref p0), some (.ref a1), none]) (lsub_of _ _ ⟨Or.inr rfl, ⟨Or.inr rfl, ⟨Or.inl rfl, trivial⟩⟩⟩) ?_
                      exact e_x_writeStage_104 hd p0 a1 M83 r h
        · refine EV_stq mx_221 (pc' := 44) (L' := [some (.ref p0), some (.ref a1), none]) (st' := [.ref a1]) bo_221_42_610feb rfl ?_
          refine r_gI mx_221 li_221_44 fd_13_160 ⟨by decide, by decide⟩ h (fun v86 h => ?_)
          refine h_cI h (fun v88 M87 e h => ?_)
          refine EV_call [.int v86] [] mx_221 li_221_47 rfl rfl si_13_313 rfl (by decide) (by decide) (by omega) ma_44 rfl (Nat.le_of_ble_eq_true rfl) rfl rfl (Nat.le_of_ble_eq_true rfl) rfl (e_x_numbersOf (by omega) v86 M10 _ e) ?_
          show EV d 221 50 [some (.ref p0), some (.ref a1), none] [.int v88] M87 _
          refine EV_stq mx_221 (pc' := 52) (L' := [some (.ref p0), some (.ref a1), some (.int v88)]) (st' := [.int v88]) bo_221_50_b22ebb rfl ?_
          refine h_le h (fun h hc => ?_) (fun h hc => ?_)
          · refine r_ifT mx_221 li_221_52 (by decide) rfl hc ?_
            refine EV_forget (A := [some (.ref p0), some (.ref a1), none]) (lsub_of _ _ ⟨Or.inr rfl, ⟨Or.inr rfl, ⟨Or.inl rfl, trivial⟩⟩⟩) ?_
            exact e_x_writeStage_114 hd p0 a1 M87 r h
          · refine r_ifF mx_221 li_221_52 (by decide) hc ?_
            refine EV_stq mx_221 (pc' := 56) (L' := [some (.ref p0), some (.ref a1), some (.int v88)]) (st' := [.ref p0]) bo_221_55_bd1207 rfl ?_
            refine r_gA mx_221 li_221_56 fd_13_16 rfl h (fun a89 h => ?_)
            refine EV_stq mx_221 (pc' := 61) (L' := [some (.ref p0), some (.ref a1), some (.int v88)]) (st' := [.int (40 : Int32), .ref a89]) bo_221_59_8c3b95 rfl ?_
            refine h_ck h (fun hc h => ?_)
            refine h_cR h (fun o91 M90 e h => ?_)
            refine EV_call [.ref a89, .int (40 : Int32)] [] mx_221 li_221_61 rfl rfl si_13_57 rfl (by decide) (by decide) (by omega) ma_27 rfl (Nat.le_of_ble_eq_true rfl) rfl rfl (Nat.le_of_ble_eq_true rfl) (rc_1 mt_at_27 rfl rfl (by decide) hc) (e_sb_append0 (by omega) a89 (40 : Int32) M87 _ e) ?_
            refine h_onR (G := fun o => EV d 221 64 [some (.ref p0), some (.ref a1), some (.int v88)] [rfv o] M90 _) h (fun h => ?_) (fun a92 h => ?_)
            · refine EV_stq mx_221 (pc' := 66) (L' := [some (.ref p0), some (.ref a1), some (.int v88)]) (st' := [.ref p0]) bo_221_64_23d05d rfl ?_
              refine r_gA mx_221 li_221_66 fd_13_16 rfl h (fun a93 h => ?_)
              refine EV_stq mx_221 (pc' := 70) (L' := [some (.ref p0), some (.ref a1), some (.int v88)]) (st' := [.ref a1, .ref a93]) bo_221_69_d2296b rfl ?_
              refine r_gI mx_221 li_221_70 fd_13_166 ⟨by decide, by decide⟩ h (fun v94 h => ?_)
              refine h_ck h (fun hc h => ?_)
              refine h_cR h (fun o96 M95 e h => ?_)
              refine EV_call [.ref a93, .int v94] [] mx_221 li_221_73 rfl rfl si_13_282 rfl (by decide) (by decide) (by omega) ma_220 rfl (Nat.le_of_ble_eq_true rfl) rfl rfl (Nat.le_of_ble_eq_true rfl) (rc_1 mt_at_220 rfl rfl (by decide) hc) (e_sb_append1 (by omega) a93 v94 M90 _ e) ?_
              refine h_onR (G := fun o => EV d 221 76 [some (.ref p0), some (.ref a1), some (.int v88)] [rfv o] M95 _) h (fun h => ?_) (fun a97 h => ?_)
              · refine EV_stq mx_221 (pc' := 79) (L' := [some (.ref p0), some (.ref a1), some (.int v88)]) (st' := [.int (1 : Int32), .int v88]) bo_221_76_98eb4c rfl ?_
                refine h_le h (fun h hc => ?_) (fun h hc => ?_)
                · refine r_icT mx_221 li_221_79 (by decide) rfl hc ?_
                  refine EV_forget (A := [some (.ref p0), some (.ref a1), none]) (lsub_of _ _ ⟨Or.inr rfl, ⟨Or.inr rfl, ⟨Or.inl rfl, trivial⟩⟩⟩) ?_
                  exact e_x_writeStage_104 hd p0 a1 M95 r h
                · refine r_icF mx_221 li_221_79 (by decide) hc ?_
                  refine EV_stq mx_221 (pc' := 83) (L' := [some (.ref p0), some (.ref a1), some (.int v88)]) (st' := [.ref p0]) bo_221_82_d3719d rfl ?_
                  refine r_gA mx_221 li_221_83 fd_13_16 rfl h (fun a98 h => ?_)
                  refine EV_stq mx_221 (pc' := 88) (L' := [some (.ref p0), some (.ref a1), some (.int v88)]) (st' := [.int (44 : Int32), .ref a98]) bo_221_86_bff005 rfl ?_
                  refine h_ck h (fun hc h => ?_)
                  refine h_cR h (fun o100 M99 e h => ?_)
                  refine EV_call [.ref a98, .int (44 : Int32)] [] mx_221 li_221_88 rfl rfl si_13_57 rfl (by decide) (by decide) (by omega) ma_27 rfl (Nat.le_of_ble_eq_true rfl) rfl rfl (Nat.le_of_ble_eq_true rfl) (rc_1 mt_at_27 rfl rfl (by decide) hc) (e_sb_append0 (by omega) a98 (44 : Int32) M95 _ e) ?_
                  refine h_onR (G := fun o => EV d 221 91 [some (.ref p0), some (.ref a1), some (.int v88)] [rfv o] M99 _) h (fun h => ?_) (fun a101 h => ?_)
                  · refine EV_stq mx_221 (pc' := 93) (L' := [some (.ref p0), some (.ref a1), some (.int v88)]) (st' := [.ref p0]) bo_221_91_e197d6 rfl ?_
                    refine r_gA mx_221 li_221_93 fd_13_16 rfl h (fun a102 h => ?_)
                    refine EV_stq mx_221 (pc' := 97) (L' := [some (.ref p0), some (.ref a1), some (.int v88)]) (st' := [.ref a1, .ref a102]) bo_221_96_2375ef rfl ?_
                    refine r_gI mx_221 li_221_97 fd_13_169 ⟨by decide, by decide⟩ h (fun v103 h => ?_)
                    refine h_ck h (fun hc h => ?_)
                    refine h_cR h (fun o105 M104 e h => ?_)
                    refine EV_call [.ref a102, .int v103] [] mx_221 li_221_100 rfl rfl si_13_282 rfl (by decide) (by decide) (by omega) ma_220 rfl (Nat.le_of_ble_eq_true rfl) rfl rfl (Nat.le_of_ble_eq_true rfl) (rc_1 mt_at_220 rfl rfl (by decide) hc) (e_sb_append1 (by omega) a102 v103 M99 _ e) ?_
                    refine h_onR (G := fun o => EV d 221 103 [some (.ref p0), some (.ref a1), some (.int v88)] [rfv o] M104 _) h (fun h => ?_) (fun a106 h => ?_)
                    · refine EV_stq mx_221 (pc' := 104) (L' := [some (.ref p0), some (.ref a1), some (.int v88)]) (st' := []) bo_221_103_98f00a rfl ?_
                      refine EV_forget (A := [some (.ref p0), some (.ref a1), none]) (lsub_of _ _ ⟨Or.inr rfl, ⟨Or.inr rfl, ⟨Or.inl rfl, trivial⟩⟩⟩) ?_
                      exact e_x_writeStage_104 hd p0 a1 M104 r h
                    · refine EV_stq mx_221 (pc' := 104) (L' := [some (.ref p0), some (.ref a1), some (.int v88)]) (st' := []) bo_221_103_98f00a rfl ?_
                      refine EV_forget (A := [some (.ref p0), some (.ref a1), none]) (lsub_of _ _ ⟨Or.inr rfl, ⟨Or.inr rfl, ⟨Or.inl rfl, trivial⟩⟩⟩) ?_
                      exact e_x_writeStage_104 hd p0 a1 M104 r h
                  · refine EV_stq mx_221 (pc' := 93) (L' := [some (.ref p0), some (.ref a1), some (.int v88)]) (st' := [.ref p0]) bo_221_91_e197d6 rfl ?_
                    refine r_gA mx_221 li_221_93 fd_13_16 rfl h (fun a107 h => ?_)
                    refine EV_stq mx_221 (pc' := 97) (L' := [some (.ref p0), some (.ref a1), some (.int v88)]) (st' := [.ref a1, .ref a107]) bo_221_96_2375ef rfl ?_
                    refine r_gI mx_221 li_221_97 fd_13_169 ⟨by decide, by decide⟩ h (fun v108 h => ?_)
                    refine h_ck h (fun hc h => ?_)
                    refine h_cR h (fun o110 M109 e h => ?_)
                    refine EV_call [.ref a107, .int v108] [] mx_221 li_221_100 rfl rfl si_13_282 rfl (by decide) (by decide) (by omega) ma_220 rfl (Nat.le_of_ble_eq_true rfl) rfl rfl (Nat.le_of_ble_eq_true rfl) (rc_1 mt_at_220 rfl rfl (by decide) hc) (e_sb_append1 (by omega) a107 v108 M99 _ e) ?_
                    refine h_onR (G := fun o => EV d 221 103 [some (.ref p0), some (.ref a1), some (.int v88)] [rfv o] M109 _) h (fun h => ?_) (fun a111 h => ?_)
                    · refine EV_stq mx_221 (pc' := 104) (L' := [some (.ref p0), some (.ref a1), some (.int v88)]) (st' := []) bo_221_103_98f00a rfl ?_
                      refine EV_forget (A := [some (.ref p0), some (.ref a1), none]) (lsub_of _ _ ⟨Or.inr rfl, ⟨Or.inr rfl, ⟨Or.inl rfl, trivial⟩⟩⟩) ?_
                      exact e_x_writeStage_104 hd p0 a1 M109 r h
                    · refine EV_stq mx_221 (pc' := 104) (L' := [some (.ref p0), some (.ref a1), some (.int v88)]) (st' := []) bo_221_103_98f00a rfl ?_
                      refine EV_forget (A := [some (.ref p0), some (.ref a1), none]) (lsub_of _ _ ⟨Or.inr rfl, ⟨Or.inr rfl, ⟨Or.inl rfl, trivial⟩⟩⟩) ?_
                      exact e_x_writeStage_104 hd p0 a1 M109 r h
              · refine EV_stq mx_221 (pc' := 79) (L' := [some (.ref p0), some (.ref a1), some (.int v88)]) (st' := [.int (1 : Int32), .int v88]) bo_221_76_98eb4c rfl ?_
                refine h_le h (fun h hc => ?_) (fun h hc => ?_)
                · refine r_icT mx_221 li_221_79 (by decide) rfl hc ?_
                  refine EV_forget (A := [some (.ref p0), some (.ref a1), none]) (lsub_of _ _ ⟨Or.inr rfl, ⟨Or.inr rfl, ⟨Or.inl rfl, trivial⟩⟩⟩) ?_
                  exact e_x_writeStage_104 hd p0 a1 M95 r h
                · refine r_icF mx_221 li_221_79 (by decide) hc ?_
                  refine EV_stq mx_221 (pc' := 83) (L' := [some (.ref p0), some (.ref a1), some (.int v88)]) (st' := [.ref p0]) bo_221_82_d3719d rfl ?_
                  refine r_gA mx_221 li_221_83 fd_13_16 rfl h (fun a112 h => ?_)
                  refine EV_stq mx_221 (pc' := 88) (L' := [some (.ref p0), some (.ref a1), some (.int v88)]) (st' := [.int (44 : Int32), .ref a112]) bo_221_86_bff005 rfl ?_
                  refine h_ck h (fun hc h => ?_)
                  refine h_cR h (fun o114 M113 e h => ?_)
                  refine EV_call [.ref a112, .int (44 : Int32)] [] mx_221 li_221_88 rfl rfl si_13_57 rfl (by decide) (by decide) (by omega) ma_27 rfl (Nat.le_of_ble_eq_true rfl) rfl rfl (Nat.le_of_ble_eq_true rfl) (rc_1 mt_at_27 rfl rfl (by decide) hc) (e_sb_append0 (by omega) a112 (44 : Int32) M95 _ e) ?_
                  refine h_onR (G := fun o => EV d 221 91 [some (.ref p0), some (.ref a1), some (.int v88)] [rfv o] M113 _) h (fun h => ?_) (fun a115 h => ?_)
                  · refine EV_stq mx_221 (pc' := 93) (L' := [some (.ref p0), some (.ref a1), some (.int v88)]) (st' := [.ref p0]) bo_221_91_e197d6 rfl ?_
                    refine r_gA mx_221 li_221_93 fd_13_16 rfl h (fun a116 h => ?_)
                    refine EV_stq mx_221 (pc' := 97) (L' := [some (.ref p0), some (.ref a1), some (.int v88)]) (st' := [.ref a1, .ref a116]) bo_221_96_2375ef rfl ?_
                    refine r_gI mx_221 li_221_97 fd_13_169 ⟨by decide, by decide⟩ h (fun v117 h => ?_)
                    refine h_ck h (fun hc h => ?_)
                    refine h_cR h (fun o119 M118 e h => ?_)
                    refine EV_call [.ref a116, .int v117] [] mx_221 li_221_100 rfl rfl si_13_282 rfl (by decide) (by decide) (by omega) ma_220 rfl (Nat.le_of_ble_eq_true rfl) rfl rfl (Nat.le_of_ble_eq_true rfl) (rc_1 mt_at_220 rfl rfl (by decide) hc) (e_sb_append1 (by omega) a116 v117 M113 _ e) ?_
                    refine h_onR (G := fun o => EV d 221 103 [some (.ref p0), some (.ref a1), some (.int v88)] [rfv o] M118 _) h (fun h => ?_) (fun a120 h => ?_)
                    · refine EV_stq mx_221 (pc' := 104) (L' := [some (.ref p0), some (.ref a1), some (.int v88)]) (st' := []) bo_221_103_98f00a rfl ?_
                      refine EV_forget (A := [some (.ref p0), some (.ref a1), none]) (lsub_of _ _ ⟨Or.inr rfl, ⟨Or.inr rfl, ⟨Or.inl rfl, trivial⟩⟩⟩) ?_
                      exact e_x_writeStage_104 hd p0 a1 M118 r h
                    · refine EV_stq mx_221 (pc' := 104) (L' := [some (.ref p0), some (.ref a1), some (.int v88)]) (st' := []) bo_221_103_98f00a rfl ?_
                      refine EV_forget (A := [some (.ref p0), some (.ref a1), none]) (lsub_of _ _ ⟨Or.inr rfl, ⟨Or.inr rfl, ⟨Or.inl rfl, trivial⟩⟩⟩) ?_
                      exact e_x_writeStage_104 hd p0 a1 M118 r h
                  · refine EV_stq mx_221 (pc' := 93) (L' := [some (.ref p0), some (.ref a1), some (.int v88)]) (st' := [.ref p0]) bo_221_91_e197d6 rfl ?_
                    refine r_gA mx_221 li_221_93 fd_13_16 rfl h (fun a121 h => ?_)
                    refine EV_stq mx_221 (pc' := 97) (L' := [some (.ref p0), some (.ref a1), some (.int v88)]) (st' := [.ref a1, .ref a121]) bo_221_96_2375ef rfl ?_
                    refine r_gI mx_221 li_221_97 fd_13_169 ⟨by decide, by decide⟩ h (fun v122 h => ?_)
                    refine h_ck h (fun hc h => ?_)
                    refine h_cR h (fun o124 M123 e h => ?_)
                    refine EV_call [.ref a121, .int v122] [] mx_221 li_221_100 rfl rfl si_13_282 rfl (by decide) (by decide) (by omega) ma_220 rfl (Nat.le_of_ble_eq_true rfl) rfl rfl (Nat.le_of_ble_eq_true rfl) (rc_1 mt_at_220 rfl rfl (by decide) hc) (e_sb_append1 (by omega) a121 v122 M113 _ e) ?_
                    refine h_onR (G := fun o => EV d 221 103 [some (.ref p0), some (.ref a1), some (.int v88)] [rfv o] M123 _) h (fun h => ?_) (fun a125 h => ?_)
                    · refine EV_stq mx_221 (pc' := 104) (L' := [some (.ref p0), some (.ref a1), some (.int v88)]) (st' := []) bo_221_103_98f00a rfl ?_
                      refine EV_forget (A := [some (.ref p0), some (.ref a1), none]) (lsub_of _ _ ⟨Or.inr rfl, ⟨Or.inr rfl, ⟨Or.inl rfl, trivial⟩⟩⟩) ?_
                      exact e_x_writeStage_104 hd p0 a1 M123 r h
                    · refine EV_stq mx_221 (pc' := 104) (L' := [some (.ref p0), some (.ref a1), some (.int v88)]) (st' := []) bo_221_103_98f00a rfl ?_
                      refine EV_forget (A := [some (.ref p0), some (.ref a1), none]) (lsub_of _ _ ⟨Or.inr rfl, ⟨Or.inr rfl, ⟨Or.inl rfl, trivial⟩⟩⟩) ?_
                      exact e_x_writeStage_104 hd p0 a1 M123 r h
            · refine EV_stq mx_221 (pc' := 66) (L' := [some (.ref p0), some (.ref a1), some (.int v88)]) (st' := [.ref p0]) bo_221_64_23d05d rfl ?_
              refine r_gA mx_221 li_221_66 fd_13_16 rfl h (fun a126 h => ?_)
              refine EV_stq mx_221 (pc' := 70) (L' := [some (.ref p0), some (.ref a1), some (.int v88)]) (st' := [.ref a1, .ref a126]) bo_221_69_d2296b rfl ?_
              refine r_gI mx_221 li_221_70 fd_13_166 ⟨by decide, by decide⟩ h (fun v127 h => ?_)
              refine h_ck h (fun hc h => ?_)
              refine h_cR h (fun o129 M128 e h => ?_)
              refine EV_call [.ref a126, .int v127] [] mx_221 li_221_73 rfl rfl si_13_282 rfl (by decide) (by decide) (by omega) ma_220 rfl (Nat.le_of_ble_eq_true rfl) rfl rfl (Nat.le_of_ble_eq_true rfl) (rc_1 mt_at_220 rfl rfl (by decide) hc) (e_sb_append1 (by omega) a126 v127 M90 _ e) ?_
              refine h_onR (G := fun o => EV d 221 76 [some (.ref p0), some (.ref a1), some (.int v88)] [rfv o] M128 _) h (fun h => ?_) (fun a130 h => ?_)
              · refine EV_stq mx_221 (pc' := 79) (L' := [some (.ref p0), some (.ref a1), some (.int v88)]) (st' := [.int (1 : Int32), .int v88]) bo_221_76_98eb4c rfl ?_
                refine h_le h (fun h hc => ?_) (fun h hc => ?_)
                · refine r_icT mx_221 li_221_79 (by decide) rfl hc ?_
                  refine EV_forget (A := [some (.ref p0), some (.ref a1), none]) (lsub_of _ _ ⟨Or.inr rfl, ⟨Or.inr rfl, ⟨Or.inl rfl, trivial⟩⟩⟩) ?_
                  exact e_x_writeStage_104 hd p0 a1 M128 r h
                · refine r_icF mx_221 li_221_79 (by decide) hc ?_
                  refine EV_stq mx_221 (pc' := 83) (L' := [some (.ref p0), some (.ref a1), some (.int v88)]) (st' := [.ref p0]) bo_221_82_d3719d rfl ?_
                  refine r_gA mx_221 li_221_83 fd_13_16 rfl h (fun a131 h => ?_)
                  refine EV_stq mx_221 (pc' := 88) (L' := [some (.ref p0), some (.ref a1), some (.int v88)]) (st' := [.int (44 : Int32), .ref a131]) bo_221_86_bff005 rfl ?_
                  refine h_ck h (fun hc h => ?_)
                  refine h_cR h (fun o133 M132 e h => ?_)
                  refine EV_call [.ref a131, .int (44 : Int32)] [] mx_221 li_221_88 rfl rfl si_13_57 rfl (by decide) (by decide) (by omega) ma_27 rfl (Nat.le_of_ble_eq_true rfl) rfl rfl (Nat.le_of_ble_eq_true rfl) (rc_1 mt_at_27 rfl rfl (by decide) hc) (e_sb_append0 (by omega) a131 (44 : Int32) M128 _ e) ?_
                  refine h_onR (G := fun o => EV d 221 91 [some (.ref p0), some (.ref a1), some (.int v88)] [rfv o] M132 _) h (fun h => ?_) (fun a134 h => ?_)
                  · refine EV_stq mx_221 (pc' := 93) (L' := [some (.ref p0), some (.ref a1), some (.int v88)]) (st' := [.ref p0]) bo_221_91_e197d6 rfl ?_
                    refine r_gA mx_221 li_221_93 fd_13_16 rfl h (fun a135 h => ?_)
                    refine EV_stq mx_221 (pc' := 97) (L' := [some (.ref p0), some (.ref a1), some (.int v88)]) (st' := [.ref a1, .ref a135]) bo_221_96_2375ef rfl ?_
                    refine r_gI mx_221 li_221_97 fd_13_169 ⟨by decide, by decide⟩ h (fun v136 h => ?_)
                    refine h_ck h (fun hc h => ?_)
                    refine h_cR h (fun o138 M137 e h => ?_)
                    refine EV_call [.ref a135, .int v136] [] mx_221 li_221_100 rfl rfl si_13_282 rfl (by decide) (by decide) (by omega) ma_220 rfl (Nat.le_of_ble_eq_true rfl) rfl rfl (Nat.le_of_ble_eq_true rfl) (rc_1 mt_at_220 rfl rfl (by decide) hc) (e_sb_append1 (by omega) a135 v136 M132 _ e) ?_
                    refine h_onR (G := fun o => EV d 221 103 [some (.ref p0), some (.ref a1), some (.int v88)] [rfv o] M137 _) h (fun h => ?_) (fun a139 h => ?_)
                    · refine EV_stq mx_221 (pc' := 104) (L' := [some (.ref p0), some (.ref a1), some (.int v88)]) (st' := []) bo_221_103_98f00a rfl ?_
                      refine EV_forget (A := [some (.ref p0), some (.ref a1), none]) (lsub_of _ _ ⟨Or.inr rfl, ⟨Or.inr rfl, ⟨Or.inl rfl, trivial⟩⟩⟩) ?_
                      exact e_x_writeStage_104 hd p0 a1 M137 r h
                    · refine EV_stq mx_221 (pc' := 104) (L' := [some (.ref p0), some (.ref a1), some (.int v88)]) (st' := []) bo_221_103_98f00a rfl ?_
                      refine EV_forget (A := [some (.ref p0), some (.ref a1), none]) (lsub_of _ _ ⟨Or.inr rfl, ⟨Or.inr rfl, ⟨Or.inl rfl, trivial⟩⟩⟩) ?_
                      exact e_x_writeStage_104 hd p0 a1 M137 r h
                  · refine EV_stq mx_221 (pc' := 93) (L' := [some (.ref p0), some (.ref a1), some (.int v88)]) (st' := [.ref p0]) bo_221_91_e197d6 rfl ?_
                    refine r_gA mx_221 li_221_93 fd_13_16 rfl h (fun a140 h => ?_)
                    refine EV_stq mx_221 (pc' := 97) (L' := [some (.ref p0), some (.ref a1), some (.int v88)]) (st' := [.ref a1, .ref a140]) bo_221_96_2375ef rfl ?_
                    refine r_gI mx_221 li_221_97 fd_13_169 ⟨by decide, by decide⟩ h (fun v141 h => ?_)
                    refine h_ck h (fun hc h => ?_)
                    refine h_cR h (fun o143 M142 e h => ?_)
                    refine EV_call [.ref a140, .int v141] [] mx_221 li_221_100 rfl rfl si_13_282 rfl (by decide) (by decide) (by omega) ma_220 rfl (Nat.le_of_ble_eq_true rfl) rfl rfl (Nat.le_of_ble_eq_true rfl) (rc_1 mt_at_220 rfl rfl (by decide) hc) (e_sb_append1 (by omega) a140 v141 M132 _ e) ?_
                    refine h_onR (G := fun o => EV d 221 103 [some (.ref p0), some (.ref a1), some (.int v88)] [rfv o] M142 _) h (fun h => ?_) (fun a144 h => ?_)
                    · refine EV_stq mx_221 (pc' := 104) (L' := [some (.ref p0), some (.ref a1), some (.int v88)]) (st' := []) bo_221_103_98f00a rfl ?_
                      refine EV_forget (A := [some (.ref p0), some (.ref a1), none]) (lsub_of _ _ ⟨Or.inr rfl, ⟨Or.inr rfl, ⟨Or.inl rfl, trivial⟩⟩⟩) ?_
                      exact e_x_writeStage_104 hd p0 a1 M142 r h
                    · refine EV_stq mx_221 (pc' := 104) (L' := [some (.ref p0), some (.ref a1), some (.int v88)]) (st' := []) bo_221_103_98f00a rfl ?_
                      refine EV_forget (A := [some (.ref p0), some (.ref a1), none]) (lsub_of _ _ ⟨Or.inr rfl, ⟨Or.inr rfl, ⟨Or.inl rfl, trivial⟩⟩⟩) ?_
                      exact e_x_writeStage_104 hd p0 a1 M142 r h
              · refine EV_stq mx_221 (pc' := 79) (L' := [some (.ref p0), some (.ref a1), some (.int v88)]) (st' := [.int (1 : Int32), .int v88]) bo_221_76_98eb4c rfl ?_
                refine h_le h (fun h hc => ?_) (fun h hc => ?_)
                · refine r_icT mx_221 li_221_79 (by decide) rfl hc ?_
                  refine EV_forget (A := [some (.ref p0), some (.ref a1), none]) (lsub_of _ _ ⟨Or.inr rfl, ⟨Or.inr rfl, ⟨Or.inl rfl, trivial⟩⟩⟩) ?_
                  exact e_x_writeStage_104 hd p0 a1 M128 r h
                · refine r_icF mx_221 li_221_79 (by decide) hc ?_
                  refine EV_stq mx_221 (pc' := 83) (L' := [some (.ref p0), some (.ref a1), some (.int v88)]) (st' := [.ref p0]) bo_221_82_d3719d rfl ?_
                  refine r_gA mx_221 li_221_83 fd_13_16 rfl h (fun a145 h => ?_)
                  refine EV_stq mx_221 (pc' := 88) (L' := [some (.ref p0), some (.ref a1), some (.int v88)]) (st' := [.int (44 : Int32), .ref a145]) bo_221_86_bff005 rfl ?_
                  refine h_ck h (fun hc h => ?_)
                  refine h_cR h (fun o147 M146 e h => ?_)
                  refine EV_call [.ref a145, .int (44 : Int32)] [] mx_221 li_221_88 rfl rfl si_13_57 rfl (by decide) (by decide) (by omega) ma_27 rfl (Nat.le_of_ble_eq_true rfl) rfl rfl (Nat.le_of_ble_eq_true rfl) (rc_1 mt_at_27 rfl rfl (by decide) hc) (e_sb_append0 (by omega) a145 (44 : Int32) M128 _ e) ?_
                  refine h_onR (G := fun o => EV d 221 91 [some (.ref p0), some (.ref a1), some (.int v88)] [rfv o] M146 _) h (fun h => ?_) (fun a148 h => ?_)
                  · refine EV_stq mx_221 (pc' := 93) (L' := [some (.ref p0), some (.ref a1), some (.int v88)]) (st' := [.ref p0]) bo_221_91_e197d6 rfl ?_
                    refine r_gA mx_221 li_221_93 fd_13_16 rfl h (fun a149 h => ?_)
                    refine EV_stq mx_221 (pc' := 97) (L' := [some (.ref p0), some (.ref a1), some (.int v88)]) (st' := [.ref a1, .ref a149]) bo_221_96_2375ef rfl ?_
                    refine r_gI mx_221 li_221_97 fd_13_169 ⟨by decide, by decide⟩ h (fun v150 h => ?_)
                    refine h_ck h (fun hc h => ?_)
                    refine h_cR h (fun o152 M151 e h => ?_)
                    refine EV_call [.ref a149, .int v150] [] mx_221 li_221_100 rfl rfl si_13_282 rfl (by decide) (by decide) (by omega) ma_220 rfl (Nat.le_of_ble_eq_true rfl) rfl rfl (Nat.le_of_ble_eq_true rfl) (rc_1 mt_at_220 rfl rfl (by decide) hc) (e_sb_append1 (by omega) a149 v150 M146 _ e) ?_
                    refine h_onR (G := fun o => EV d 221 103 [some (.ref p0), some (.ref a1), some (.int v88)] [rfv o] M151 _) h (fun h => ?_) (fun a153 h => ?_)
                    · refine EV_stq mx_221 (pc' := 104) (L' := [some (.ref p0), some (.ref a1), some (.int v88)]) (st' := []) bo_221_103_98f00a rfl ?_
                      refine EV_forget (A := [some (.ref p0), some (.ref a1), none]) (lsub_of _ _ ⟨Or.inr rfl, ⟨Or.inr rfl, ⟨Or.inl rfl, trivial⟩⟩⟩) ?_
                      exact e_x_writeStage_104 hd p0 a1 M151 r h
                    · refine EV_stq mx_221 (pc' := 104) (L' := [some (.ref p0), some (.ref a1), some (.int v88)]) (st' := []) bo_221_103_98f00a rfl ?_
                      refine EV_forget (A := [some (.ref p0), some (.ref a1), none]) (lsub_of _ _ ⟨Or.inr rfl, ⟨Or.inr rfl, ⟨Or.inl rfl, trivial⟩⟩⟩) ?_
                      exact e_x_writeStage_104 hd p0 a1 M151 r h
                  · refine EV_stq mx_221 (pc' := 93) (L' := [some (.ref p0), some (.ref a1), some (.int v88)]) (st' := [.ref p0]) bo_221_91_e197d6 rfl ?_
                    refine r_gA mx_221 li_221_93 fd_13_16 rfl h (fun a154 h => ?_)
                    refine EV_stq mx_221 (pc' := 97) (L' := [some (.ref p0), some (.ref a1), some (.int v88)]) (st' := [.ref a1, .ref a154]) bo_221_96_2375ef rfl ?_
                    refine r_gI mx_221 li_221_97 fd_13_169 ⟨by decide, by decide⟩ h (fun v155 h => ?_)
                    refine h_ck h (fun hc h => ?_)
                    refine h_cR h (fun o157 M156 e h => ?_)
                    refine EV_call [.ref a154, .int v155] [] mx_221 li_221_100 rfl rfl si_13_282 rfl (by decide) (by decide) (by omega) ma_220 rfl (Nat.le_of_ble_eq_true rfl) rfl rfl (Nat.le_of_ble_eq_true rfl) (rc_1 mt_at_220 rfl rfl (by decide) hc) (e_sb_append1 (by omega) a154 v155 M146 _ e) ?_
                    refine h_onR (G := fun o => EV d 221 103 [some (.ref p0), some (.ref a1), some (.int v88)] [rfv o] M156 _) h (fun h => ?_) (fun a158 h => ?_)
                    · refine EV_stq mx_221 (pc' := 104) (L' := [some (.ref p0), some (.ref a1), some (.int v88)]) (st' := []) bo_221_103_98f00a rfl ?_
                      refine EV_forget (A := [some (.ref p0), some (.ref a1), none]) (lsub_of _ _ ⟨Or.inr rfl, ⟨Or.inr rfl, ⟨Or.inl rfl, trivial⟩⟩⟩) ?_
                      exact e_x_writeStage_104 hd p0 a1 M156 r h
                    · refine EV_stq mx_221 (pc' := 104) (L' := [some (.ref p0), some (.ref a1), some (.int v88)]) (st' := []) bo_221_103_98f00a rfl ?_
                      refine EV_forget (A := [some (.ref p0), some (.ref a1), none]) (lsub_of _ _ ⟨Or.inr rfl, ⟨Or.inr rfl, ⟨Or.inl rfl, trivial⟩⟩⟩) ?_
                      exact e_x_writeStage_104 hd p0 a1 M156 r h
      · refine r_icF mx_221 li_221_21 (by decide) hc ?_
        obtain rfl := Option.some.inj h
        exact r_ret mx_221 li_221_24 rfl rfl
theorem e_x_write_36 {d : Nat} (hd : 7 ≤ d) (k10 : Nat → Int32 → Mem → Option (Int32 × Mem)) (hk10 : ∀ l0 l1 M r, k10 l0 l1 M = some r → EV d 222 10 [some (.ref l0), some (.int l1)] [] M (some (.int r.1), r.2)) (l0 : Nat) (l1 : Int32) (M : Mem) (r : Int32 × Mem) (h : f_x_write_36 k10 l0 l1 M = some r) : EV d 222 36 [some (.ref l0), some (.int l1)] [] M (some (.int r.1), r.2) := by
  unfold f_x_write_36 at h
  refine EV_stq mx_222 (pc' := 38) (L' := [some (.ref l0), some (.int l1)]) (st' := [.ref l0, .ref l0]) bo_222_36_285c9e rfl ?_
  refine r_gA mx_222 li_222_38 fd_13_31 rfl h (fun a1 h => ?_)
  refine EV_stq mx_222 (pc' := 42) (L' := [some (.ref l0), some (.int l1)]) (st' := [.int l1, .ref a1, .ref l0]) bo_222_41_45abaf rfl ?_
  refine h_ck h (fun hc h => ?_)
  refine h_cR h (fun o3 M2 e h => ?_)
  refine EV_call [.ref a1, .int l1] [.ref l0] mx_222 li_222_42 rfl rfl si_13_133 rfl (by decide) (by decide) (by omega) ma_56 rfl (Nat.le_of_ble_eq_true rfl) rfl rfl (Nat.le_of_ble_eq_true rfl) (rc_1 mt_at_56 rfl rfl (by decide) hc) (e_sm_operatorAt (by omega) a1 l1 M _ e) ?_
  refine h_onR (G := fun o => EV d 222 45 [some (.ref l0), some (.int l1)] [rfv o, .ref l0] M2 _) h (fun h => ?_) (fun a4 h => ?_)
  · refine h_ck h (fun hc h => ?_)
    refine h_cV h (fun M5 e h => ?_)
    refine EV_call [.ref l0, .null] [] mx_222 li_222_45 rfl rfl si_13_275 rfl (by decide) (by decide) (by omega) ma_221 rfl (Nat.le_of_ble_eq_true rfl) rfl rfl (Nat.le_of_ble_eq_true rfl) (rc_1 mt_at_221 rfl rfl (by decide) hc) (e_x_writeStage (by omega) l0 none M2 _ e) ?_
    show EV d 222 48 [some (.ref l0), some (.int l1)] [] M5 _
    refine EV_stq mx_222 (pc' := 10) (L' := [some (.ref l0), some (.int (l1 + (1 : Int32)))]) (st' := []) bo_222_48_f60d88 rfl ?_
    exact hk10 l0 (l1 + (1 : Int32)) M5 r h
  · refine h_ck h (fun hc h => ?_)
    refine h_cV h (fun M6 e h => ?_)
    refine EV_call [.ref l0, .ref a4] [] mx_222 li_222_45 rfl rfl si_13_275 rfl (by decide) (by decide) (by omega) ma_221 rfl (Nat.le_of_ble_eq_true rfl) rfl rfl (Nat.le_of_ble_eq_true rfl) (rc_1 mt_at_221 rfl rfl (by decide) hc) (e_x_writeStage (by omega) l0 (some a4) M2 _ e) ?_
    show EV d 222 48 [some (.ref l0), some (.int l1)] [] M6 _
    refine EV_stq mx_222 (pc' := 10) (L' := [some (.ref l0), some (.int (l1 + (1 : Int32)))]) (st' := []) bo_222_48_f60d88 rfl ?_
    exact hk10 l0 (l1 + (1 : Int32)) M6 r h
theorem e_x_write_95 {d : Nat} (hd : 7 ≤ d) (l0 : Nat) (M : Mem) (r : Int32 × Mem) (h : f_x_write_95 l0 M = some r) : EV d 222 95 [some (.ref l0), none] [] M (some (.int r.1), r.2) := by
  unfold f_x_write_95 at h
  refine EV_stq mx_222 (pc' := 96) (L' := [some (.ref l0), none]) (st' := [.ref l0]) bo_222_95_076086 rfl ?_
  refine r_gA mx_222 li_222_96 fd_13_16 rfl h (fun a1 h => ?_)
  refine h_ck h (fun hc h => ?_)
  refine h_cI h (fun v3 M2 e h => ?_)
  refine EV_call [.ref a1] [] mx_222 li_222_99 rfl rfl si_13_52 rfl (by decide) (by decide) (by omega) ma_17 rfl (Nat.le_of_ble_eq_true rfl) rfl rfl (Nat.le_of_ble_eq_true rfl) (rc_1 mt_at_17 rfl rfl (by decide) hc) (e_sb_length (by omega) a1 M _ e) ?_
  show EV d 222 102 [some (.ref l0), none] [.int v3] M2 _
  obtain rfl := Option.some.inj h
  exact r_ret mx_222 li_222_102 rfl ro_int
theorem e_x_write_10 {d : Nat} (hd : 7 ≤ d) : ∀ (n : Nat) (l0 : Nat) (l1 : Int32) (M : Mem) (r : Int32 × Mem), f_x_write_10 n l0 l1 M = some r → EV d 222 10 [some (.ref l0), some (.int l1)] [] M (some (.int r.1), r.2) := by
  intro n
  induction n with
  | zero => intro l0 l1 M r h; cases h
  | succ n ih =>
    intro l0 l1 M r h
    unfold f_x_write_10 at h
    refine EV_stq mx_222 (pc' := 12) (L' := [some (.ref l0), some (.int l1)]) (st' := [.ref l0, .int l1]) bo_222_10_42a704 rfl ?_
    refine r_gA mx_222 li_222_12 fd_13_31 rfl h (fun a1 h => ?_)
    refine r_gI mx_222 li_222_15 fd_13_80 ⟨by decide, by decide⟩ h (fun v2 h => ?_)
    refine h_gt h (fun h hc => ?_) (fun h hc => ?_)
    · refine r_icT mx_222 li_222_18 (by decide) rfl hc ?_
      refine EV_stq mx_222 (pc' := 55) (L' := [some (.ref l0), some (.int l1)]) (st' := [.ref l0]) bo_222_54_02ca38 rfl ?_
      refine r_gA mx_222 li_222_55 fd_13_31 rfl h (fun a3 h => ?_)
      refine EV_stq mx_222 (pc' := 59) (L' := [some (.ref l0), some (.int l1)]) (st' := [.ref l0, .ref a3]) bo_222_58_df393a rfl ?_
      refine r_gA mx_222 li_222_59 fd_13_31 rfl h (fun a4 h => ?_)
      refine r_gI mx_222 li_222_62 fd_13_80 ⟨by decide, by decide⟩ h (fun v5 h => ?_)
      refine EV_stq mx_222 (pc' := 67) (L' := [some (.ref l0), some (.int l1)]) (st' := [.int (v5 + (1 : Int32)), .ref a3]) bo_222_65_dc096c rfl ?_
      refine h_ck h (fun hc h => ?_)
      refine h_cI h (fun v7 M6 e h => ?_)
      refine EV_call [.ref a3, .int (v5 + (1 : Int32))] [] mx_222 li_222_67 rfl rfl si_13_279 rfl (by decide) (by decide) (by omega) ma_90 rfl (Nat.le_of_ble_eq_true rfl) rfl rfl (Nat.le_of_ble_eq_true rfl) (rc_1 mt_at_90 rfl rfl (by decide) hc) (e_sm_sizeOf (by omega) a3 (v5 + (1 : Int32)) M _ e) ?_
      show EV d 222 70 [some (.ref l0), some (.int l1)] [.int v7] M6 _
      refine EV_stq mx_222 (pc' := 73) (L' := [some (.ref l0), some (.int v7)]) (st' := [.int (1 : Int32), .int v7]) bo_222_70_c5dfb8 rfl ?_
      refine h_le h (fun h hc => ?_) (fun h hc => ?_)
      · refine r_icT mx_222 li_222_73 (by decide) rfl hc ?_
        refine EV_forget (A := [some (.ref l0), none]) (lsub_of _ _ ⟨Or.inr rfl, ⟨Or.inl rfl, trivial⟩⟩) ?_
        exact e_x_write_95 hd l0 M6 r h
      · refine r_icF mx_222 li_222_73 (by decide) hc ?_
        refine EV_stq mx_222 (pc' := 77) (L' := [some (.ref l0), some (.int v7)]) (st' := [.ref l0]) bo_222_76_1522cc rfl ?_
        refine r_gA mx_222 li_222_77 fd_13_16 rfl h (fun a8 h => ?_)
        refine EV_stq mx_222 (pc' := 82) (L' := [some (.ref l0), some (.int v7)]) (st' := [.int (36 : Int32), .ref a8]) bo_222_80_1d0e60 rfl ?_
        refine h_ck h (fun hc h => ?_)
        refine h_cR h (fun o10 M9 e h => ?_)
        refine EV_call [.ref a8, .int (36 : Int32)] [] mx_222 li_222_82 rfl rfl si_13_57 rfl (by decide) (by decide) (by omega) ma_27 rfl (Nat.le_of_ble_eq_true rfl) rfl rfl (Nat.le_of_ble_eq_true rfl) (rc_1 mt_at_27 rfl rfl (by decide) hc) (e_sb_append0 (by omega) a8 (36 : Int32) M6 _ e) ?_
        refine h_onR (G := fun o => EV d 222 85 [some (.ref l0), some (.int v7)] [rfv o] M9 _) h (fun h => ?_) (fun a11 h => ?_)
        · refine EV_stq mx_222 (pc' := 87) (L' := [some (.ref l0), some (.int v7)]) (st' := [.ref l0]) bo_222_85_7a6887 rfl ?_
          refine r_gA mx_222 li_222_87 fd_13_16 rfl h (fun a12 h => ?_)
          refine EV_stq mx_222 (pc' := 91) (L' := [some (.ref l0), some (.int v7)]) (st' := [.int v7, .ref a12]) bo_222_90_d3b5bf rfl ?_
          refine h_ck h (fun hc h => ?_)
          refine h_cR h (fun o14 M13 e h => ?_)
          refine EV_call [.ref a12, .int v7] [] mx_222 li_222_91 rfl rfl si_13_282 rfl (by decide) (by decide) (by omega) ma_220 rfl (Nat.le_of_ble_eq_true rfl) rfl rfl (Nat.le_of_ble_eq_true rfl) (rc_1 mt_at_220 rfl rfl (by decide) hc) (e_sb_append1 (by omega) a12 v7 M9 _ e) ?_
          refine h_onR (G := fun o => EV d 222 94 [some (.ref l0), some (.int v7)] [rfv o] M13 _) h (fun h => ?_) (fun a15 h => ?_)
          · refine EV_stq mx_222 (pc' := 95) (L' := [some (.ref l0), some (.int v7)]) (st' := []) bo_222_94_6615ab rfl ?_
            refine EV_forget (A := [some (.ref l0), none]) (lsub_of _ _ ⟨Or.inr rfl, ⟨Or.inl rfl, trivial⟩⟩) ?_
            exact e_x_write_95 hd l0 M13 r h
          · refine EV_stq mx_222 (pc' := 95) (L' := [some (.ref l0), some (.int v7)]) (st' := []) bo_222_94_6615ab rfl ?_
            refine EV_forget (A := [some (.ref l0), none]) (lsub_of _ _ ⟨Or.inr rfl, ⟨Or.inl rfl, trivial⟩⟩) ?_
            exact e_x_write_95 hd l0 M13 r h
        · refine EV_stq mx_222 (pc' := 87) (L' := [some (.ref l0), some (.int v7)]) (st' := [.ref l0]) bo_222_85_7a6887 rfl ?_
          refine r_gA mx_222 li_222_87 fd_13_16 rfl h (fun a16 h => ?_)
          refine EV_stq mx_222 (pc' := 91) (L' := [some (.ref l0), some (.int v7)]) (st' := [.int v7, .ref a16]) bo_222_90_d3b5bf rfl ?_
          refine h_ck h (fun hc h => ?_)
          refine h_cR h (fun o18 M17 e h => ?_)
          refine EV_call [.ref a16, .int v7] [] mx_222 li_222_91 rfl rfl si_13_282 rfl (by decide) (by decide) (by omega) ma_220 rfl (Nat.le_of_ble_eq_true rfl) rfl rfl (Nat.le_of_ble_eq_true rfl) (rc_1 mt_at_220 rfl rfl (by decide) hc) (e_sb_append1 (by omega) a16 v7 M9 _ e) ?_
          refine h_onR (G := fun o => EV d 222 94 [some (.ref l0), some (.int v7)] [rfv o] M17 _) h (fun h => ?_) (fun a19 h => ?_)
          · refine EV_stq mx_222 (pc' := 95) (L' := [some (.ref l0), some (.int v7)]) (st' := []) bo_222_94_6615ab rfl ?_
            refine EV_forget (A := [some (.ref l0), none]) (lsub_of _ _ ⟨Or.inr rfl, ⟨Or.inl rfl, trivial⟩⟩) ?_
            exact e_x_write_95 hd l0 M17 r h
          · refine EV_stq mx_222 (pc' := 95) (L' := [some (.ref l0), some (.int v7)]) (st' := []) bo_222_94_6615ab rfl ?_
            refine EV_forget (A := [some (.ref l0), none]) (lsub_of _ _ ⟨Or.inr rfl, ⟨Or.inl rfl, trivial⟩⟩) ?_
            exact e_x_write_95 hd l0 M17 r h
    · refine r_icF mx_222 li_222_18 (by decide) hc ?_
      refine EV_stq mx_222 (pc' := 23) (L' := [some (.ref l0), some (.int l1)]) (st' := [.int (1 : Int32), .int l1]) bo_222_21_13696e rfl ?_
      refine h_le h (fun h hc => ?_) (fun h hc => ?_)
      · refine r_icT mx_222 li_222_23 (by decide) rfl hc ?_
        exact e_x_write_36 hd _ ih l0 l1 M r h
      · refine r_icF mx_222 li_222_23 (by decide) hc ?_
        refine EV_stq mx_222 (pc' := 27) (L' := [some (.ref l0), some (.int l1)]) (st' := [.ref l0]) bo_222_26_bd3b31 rfl ?_
        refine r_gA mx_222 li_222_27 fd_13_16 rfl h (fun a20 h => ?_)
        refine EV_stq mx_222 (pc' := 32) (L' := [some (.ref l0), some (.int l1)]) (st' := [.int (124 : Int32), .ref a20]) bo_222_30_0b4e4a rfl ?_
        refine h_ck h (fun hc h => ?_)
        refine h_cR h (fun o22 M21 e h => ?_)
        refine EV_call [.ref a20, .int (124 : Int32)] [] mx_222 li_222_32 rfl rfl si_13_57 rfl (by decide) (by decide) (by omega) ma_27 rfl (Nat.le_of_ble_eq_true rfl) rfl rfl (Nat.le_of_ble_eq_true rfl) (rc_1 mt_at_27 rfl rfl (by decide) hc) (e_sb_append0 (by omega) a20 (124 : Int32) M _ e) ?_
        refine h_onR (G := fun o => EV d 222 35 [some (.ref l0), some (.int l1)] [rfv o] M21 _) h (fun h => ?_) (fun a23 h => ?_)
        · refine EV_stq mx_222 (pc' := 36) (L' := [some (.ref l0), some (.int l1)]) (st' := []) bo_222_35_a976ef rfl ?_
          exact e_x_write_36 hd _ ih l0 l1 M21 r h
        · refine EV_stq mx_222 (pc' := 36) (L' := [some (.ref l0), some (.int l1)]) (st' := []) bo_222_35_a976ef rfl ?_
          exact e_x_write_36 hd _ ih l0 l1 M21 r h
theorem e_x_write {d : Nat} (hd : 7 ≤ d) (p0 : Nat) (M : Mem) (r : Int32 × Mem) (h : f_x_write p0 M = some r) : EV d 222 0 (entL 2 [.ref p0]) [] M (some (.int r.1), r.2) := by
  show EV d 222 0 [some (.ref p0), none] [] M _
  unfold f_x_write at h
  refine EV_stq mx_222 (pc' := 1) (L' := [some (.ref p0), none]) (st' := [.ref p0]) bo_222_0_8d5162 rfl ?_
  refine r_gA mx_222 li_222_1 fd_13_16 rfl h (fun a1 h => ?_)
  refine EV_stq mx_222 (pc' := 5) (L' := [some (.ref p0), none]) (st' := [.int (0 : Int32), .ref a1]) bo_222_4_e962e2 rfl ?_
  refine h_ck h (fun hc h => ?_)
  refine h_cV h (fun M2 e h => ?_)
  refine EV_call [.ref a1, .int (0 : Int32)] [] mx_222 li_222_5 rfl rfl si_13_65 rfl (by decide) (by decide) (by omega) ma_55 rfl (Nat.le_of_ble_eq_true rfl) rfl rfl (Nat.le_of_ble_eq_true rfl) (rc_1 mt_at_55 rfl rfl (by decide) hc) (e_sb_setLength (by omega) a1 (0 : Int32) M _ e) ?_
  show EV d 222 8 [some (.ref p0), none] [] M2 _
  refine EV_stq mx_222 (pc' := 10) (L' := [some (.ref p0), some (.int (1 : Int32))]) (st' := []) bo_222_8_0adad6 rfl ?_
  exact e_x_write_10 hd FU p0 (1 : Int32) M2 r h
theorem e_m_writes {d : Nat} (hd : 0 ≤ d) (p0 : Nat) (p1 : Int32) (M : Mem) (r : Mem) (h : f_m_writes p0 p1 M = some r) : EV d 223 0 (entL 2 [.ref p0, .int p1]) [] M (none, r) := by
  show EV d 223 0 [some (.ref p0), some (.int p1)] [] M _
  unfold f_m_writes at h
  refine EV_stq mx_223 (pc' := 1) (L' := [some (.ref p0), some (.int p1)]) (st' := [.ref p0]) bo_223_0_8d5162 rfl ?_
  refine r_gA mx_223 li_223_1 fd_14_193 rfl h (fun a1 h => ?_)
  refine EV_stq mx_223 (pc' := 5) (L' := [some (.ref p0), some (.int p1)]) (st' := [.ref p0, .ref a1]) bo_223_4_e962e2 rfl ?_
  refine r_gI mx_223 li_223_5 fd_14_402 ⟨by decide, by decide⟩ h (fun v2 h => ?_)
  refine EV_stq mx_223 (pc' := 9) (L' := [some (.ref p0), some (.int p1)]) (st' := [.int p1, .int v2, .ref a1]) bo_223_8_383530 rfl ?_
  refine r_sI mx_223 li_223_9 h (fun M3 h => ?_)
  refine EV_stq mx_223 (pc' := 12) (L' := [some (.ref p0), some (.int p1)]) (st' := [.ref p0, .ref p0]) bo_223_10_42a704 rfl ?_
  refine r_gI mx_223 li_223_12 fd_14_402 ⟨by decide, by decide⟩ h (fun v4 h => ?_)
  refine EV_stq mx_223 (pc' := 17) (L' := [some (.ref p0), some (.int p1)]) (st' := [.int (v4 + (1 : Int32)), .ref p0]) bo_223_15_d45c32 rfl ?_
  refine r_pI mx_223 li_223_17 fd_14_402 (Or.inl rfl) rfl h (fun M5 h => ?_)
  obtain rfl := Option.some.inj h
  exact r_ret mx_223 li_223_20 rfl rfl
theorem e_m_writesNumber_38 {d : Nat} (hd : 1 ≤ d) (l0 : Nat) (l2 : Int32) (M : Mem) (r : Mem) (h : f_m_writesNumber_38 l0 l2 M = some r) : EV d 224 38 [some (.ref l0), none, some (.int l2)] [] M (none, r) := by
  unfold f_m_writesNumber_38 at h
  refine EV_stq mx_224 (pc' := 44) (L' := [some (.ref l0), none, some (.int l2)]) (st' := [.int (10 : Int32), .int l2, .int (48 : Int32), .ref l0]) bo_224_38_8ee7e4 rfl ?_
  refine r_rm mx_224 li_224_44 h (fun v1 h => ?_)
  refine EV_stq mx_224 (pc' := 46) (L' := [some (.ref l0), none, some (.int l2)]) (st' := [.int ((48 : Int32) + v1), .ref l0]) bo_224_45_8e29f2 rfl ?_
  refine h_ck h (fun hc h => ?_)
  refine h_cV h (fun M2 e h => ?_)
  refine EV_call [.ref l0, .int ((48 : Int32) + v1)] [] mx_224 li_224_46 rfl rfl si_14_405 rfl (by decide) (by decide) (by omega) ma_223 rfl (Nat.le_of_ble_eq_true rfl) rfl rfl (Nat.le_of_ble_eq_true rfl) (rc_1 mt_at_223 rfl rfl (by decide) hc) (e_m_writes (by omega) l0 ((48 : Int32) + v1) M _ e) ?_
  show EV d 224 49 [some (.ref l0), none, some (.int l2)] [] M2 _
  obtain rfl := Option.some.inj h
  exact r_ret mx_224 li_224_49 rfl rfl
theorem e_m_writesNumber_20 {d : Nat} (hd : 1 ≤ d) (l0 : Nat) (s0 : Int32) (M : Mem) (r : Mem) (h : f_m_writesNumber_20 l0 s0 M = some r) : EV d 224 20 [some (.ref l0), none, none] [.int s0] M (none, r) := by
  unfold f_m_writesNumber_20 at h
  refine EV_stq mx_224 (pc' := 24) (L' := [some (.ref l0), none, some (.int s0)]) (st' := [.int (9 : Int32), .int s0]) bo_224_20_638673 rfl ?_
  refine h_le h (fun h hc => ?_) (fun h hc => ?_)
  · refine r_icT mx_224 li_224_24 (by decide) rfl hc ?_
    exact e_m_writesNumber_38 hd l0 s0 M r h
  · refine r_icF mx_224 li_224_24 (by decide) hc ?_
    refine EV_stq mx_224 (pc' := 33) (L' := [some (.ref l0), none, some (.int s0)]) (st' := [.int (10 : Int32), .int s0, .int (48 : Int32), .ref l0]) bo_224_27_2d5c0c rfl ?_
    refine r_dv mx_224 li_224_33 h (fun v1 h => ?_)
    refine EV_stq mx_224 (pc' := 35) (L' := [some (.ref l0), none, some (.int s0)]) (st' := [.int ((48 : Int32) + v1), .ref l0]) bo_224_34_130638 rfl ?_
    refine h_ck h (fun hc h => ?_)
    refine h_cV h (fun M2 e h => ?_)
    refine EV_call [.ref l0, .int ((48 : Int32) + v1)] [] mx_224 li_224_35 rfl rfl si_14_405 rfl (by decide) (by decide) (by omega) ma_223 rfl (Nat.le_of_ble_eq_true rfl) rfl rfl (Nat.le_of_ble_eq_true rfl) (rc_1 mt_at_223 rfl rfl (by decide) hc) (e_m_writes (by omega) l0 ((48 : Int32) + v1) M _ e) ?_
    show EV d 224 38 [some (.ref l0), none, some (.int s0)] [] M2 _
    exact e_m_writesNumber_38 hd l0 s0 M2 r h
theorem e_m_writesNumber_10 {d : Nat} (hd : 1 ≤ d) (l0 : Nat) (l1 : Int32) (M : Mem) (r : Mem) (h : f_m_writesNumber_10 l0 l1 M = some r) : EV d 224 10 [some (.ref l0), some (.int l1), none] [] M (none, r) := by
  unfold f_m_writesNumber_10 at h
  refine EV_stq mx_224 (pc' := 11) (L' := [some (.ref l0), some (.int l1), none]) (st' := [.int l1]) bo_224_10_2a30f5 rfl ?_
  refine h_ge h (fun h hc => ?_) (fun h hc => ?_)
  · refine r_ifT mx_224 li_224_11 (by decide) rfl hc ?_
    refine EV_stq mx_224 (pc' := 20) (L' := [some (.ref l0), some (.int l1), none]) (st' := [.int l1]) bo_224_19_1a8444 rfl ?_
    refine EV_forget (A := [some (.ref l0), none, none]) (lsub_of _ _ ⟨Or.inr rfl, ⟨Or.inl rfl, ⟨Or.inl rfl, trivial⟩⟩⟩) ?_
    exact e_m_writesNumber_20 hd l0 l1 M r h
  · refine r_ifF mx_224 li_224_11 (by decide) hc ?_
    refine EV_stq mx_224 (pc' := 20) (L' := [some (.ref l0), some (.int l1), none]) (st' := [.int (-l1)]) bo_224_14_7ac8d1 rfl ?_
    refine EV_forget (A := [some (.ref l0), none, none]) (lsub_of _ _ ⟨Or.inr rfl, ⟨Or.inl rfl, ⟨Or.inl rfl, trivial⟩⟩⟩) ?_
    exact e_m_writesNumber_20 hd l0 (-l1) M r h
theorem e_m_writesNumber {d : Nat} (hd : 1 ≤ d) (p0 : Nat) (p1 : Int32) (M : Mem) (r : Mem) (h : f_m_writesNumber p0 p1 M = some r) : EV d 224 0 (entL 3 [.ref p0, .int p1]) [] M (none, r) := by
  show EV d 224 0 [some (.ref p0), some (.int p1), none] [] M _
  unfold f_m_writesNumber at h
  refine EV_stq mx_224 (pc' := 1) (L' := [some (.ref p0), some (.int p1), none]) (st' := [.int p1]) bo_224_0_8d5162 rfl ?_
  refine h_ge h (fun h hc => ?_) (fun h hc => ?_)
  · refine r_ifT mx_224 li_224_1 (by decide) rfl hc ?_
    exact e_m_writesNumber_10 hd p0 p1 M r h
  · refine r_ifF mx_224 li_224_1 (by decide) hc ?_
    refine EV_stq mx_224 (pc' := 7) (L' := [some (.ref p0), some (.int p1), none]) (st' := [.int (45 : Int32), .ref p0]) bo_224_4_40e659 rfl ?_
    refine h_ck h (fun hc h => ?_)
    refine h_cV h (fun M1 e h => ?_)
    refine EV_call [.ref p0, .int (45 : Int32)] [] mx_224 li_224_7 rfl rfl si_14_405 rfl (by decide) (by decide) (by omega) ma_223 rfl (Nat.le_of_ble_eq_true rfl) rfl rfl (Nat.le_of_ble_eq_true rfl) (rc_1 mt_at_223 rfl rfl (by decide) hc) (e_m_writes (by omega) p0 (45 : Int32) M _ e) ?_
    show EV d 224 10 [some (.ref p0), some (.int p1), none] [] M1 _
    exact e_m_writesNumber_10 hd p0 p1 M1 r h
theorem e_m_write_228 {d : Nat} (hd : 2 ≤ d) (l0 : Nat) (M : Mem) (r : Int32 × Mem) (h : f_m_write_228 l0 M = some r) : EV d 225 228 [some (.ref l0), none, none] [] M (some (.int r.1), r.2) := by
  unfold f_m_write_228 at h
  refine EV_stq mx_225 (pc' := 229) (L' := [some (.ref l0), none, none]) (st' := [.ref l0]) bo_225_228_9c3780 rfl ?_
  refine r_gI mx_225 li_225_229 fd_14_402 ⟨by decide, by decide⟩ h (fun v1 h => ?_)
  obtain rfl := Option.some.inj h
  exact r_ret mx_225 li_225_232 rfl ro_int
theorem e_m_write_199 {d : Nat} (hd : 2 ≤ d) (l0 : Nat) (M : Mem) (r : Int32 × Mem) (h : f_m_write_199 l0 M = some r) : EV d 225 199 [some (.ref l0), none, none] [] M (some (.int r.1), r.2) := by
  unfold f_m_write_199 at h
  refine EV_stq mx_225 (pc' := 200) (L' := [some (.ref l0), none, none]) (st' := [.ref l0]) bo_225_199_c60df3 rfl ?_
  refine r_gA mx_225 li_225_200 fd_14_22 rfl h (fun a1 h => ?_)
  refine EV_stq mx_225 (pc' := 204) (L' := [some (.ref l0), none, none]) (st' := [.ref l0, .ref a1]) bo_225_203_321b49 rfl ?_
  refine h_ck h (fun hc h => ?_)
  refine h_cI h (fun v3 M2 e h => ?_)
  refine EV_call [.ref l0] [.ref a1] mx_225 li_225_204 rfl rfl si_14_199 rfl (by decide) (by decide) (by omega) ma_140 rfl (Nat.le_of_ble_eq_true rfl) rfl rfl (Nat.le_of_ble_eq_true rfl) (rc_1 mt_at_140 rfl rfl (by decide) hc) (e_m_sink (by omega) l0 M _ e) ?_
  show EV d 225 207 [some (.ref l0), none, none] [.int v3, .ref a1] M2 _
  refine r_aI mx_225 li_225_207 h (fun v4 h => ?_)
  refine EV_stq mx_225 (pc' := 209) (L' := [some (.ref l0), none, none]) (st' := [.int (1 : Int32), .int v4]) bo_225_208_a74105 rfl ?_
  refine h_le h (fun h hc => ?_) (fun h hc => ?_)
  · refine r_icT mx_225 li_225_209 (by decide) rfl hc ?_
    exact e_m_write_228 hd l0 M2 r h
  · refine r_icF mx_225 li_225_209 (by decide) hc ?_
    refine EV_stq mx_225 (pc' := 216) (L' := [some (.ref l0), none, none]) (st' := [.ref l0, .int (48 : Int32), .ref l0]) bo_225_212_e7fcee rfl ?_
    refine r_gA mx_225 li_225_216 fd_14_22 rfl h (fun a5 h => ?_)
    refine EV_stq mx_225 (pc' := 220) (L' := [some (.ref l0), none, none]) (st' := [.ref l0, .ref a5, .int (48 : Int32), .ref l0]) bo_225_219_d10ead rfl ?_
    refine h_ck h (fun hc h => ?_)
    refine h_cI h (fun v7 M6 e h => ?_)
    refine EV_call [.ref l0] [.ref a5, .int (48 : Int32), .ref l0] mx_225 li_225_220 rfl rfl si_14_199 rfl (by decide) (by decide) (by omega) ma_140 rfl (Nat.le_of_ble_eq_true rfl) rfl rfl (Nat.le_of_ble_eq_true rfl) (rc_1 mt_at_140 rfl rfl (by decide) hc) (e_m_sink (by omega) l0 M2 _ e) ?_
    show EV d 225 223 [some (.ref l0), none, none] [.int v7, .ref a5, .int (48 : Int32), .ref l0] M6 _
    refine r_aI mx_225 li_225_223 h (fun v8 h => ?_)
    refine EV_stq mx_225 (pc' := 225) (L' := [some (.ref l0), none, none]) (st' := [.int ((48 : Int32) + v8), .ref l0]) bo_225_224_65e609 rfl ?_
    refine h_ck h (fun hc h => ?_)
    refine h_cV h (fun M9 e h => ?_)
    refine EV_call [.ref l0, .int ((48 : Int32) + v8)] [] mx_225 li_225_225 rfl rfl si_14_405 rfl (by decide) (by decide) (by omega) ma_223 rfl (Nat.le_of_ble_eq_true rfl) rfl rfl (Nat.le_of_ble_eq_true rfl) (rc_1 mt_at_223 rfl rfl (by decide) hc) (e_m_writes (by omega) l0 ((48 : Int32) + v8) M6 _ e) ?_
    show EV d 225 228 [some (.ref l0), none, none] [] M9 _
    exact e_m_write_228 hd l0 M9 r h
theorem e_m_write_174 {d : Nat} (hd : 2 ≤ d) (k7 : Nat → Int32 → Mem → Option (Int32 × Mem)) (hk7 : ∀ l0 l1 M r, k7 l0 l1 M = some r → EV d 225 7 [some (.ref l0), some (.int l1), none] [] M (some (.int r.1), r.2)) (l0 : Nat) (l1 : Int32) (M : Mem) (r : Int32 × Mem) (h : f_m_write_174 k7 l0 l1 M = some r) : EV d 225 174 [some (.ref l0), some (.int l1), none] [] M (some (.int r.1), r.2) := by
  unfold f_m_write_174 at h
  refine EV_stq mx_225 (pc' := 7) (L' := [some (.ref l0), some (.int (l1 + (1 : Int32))), none]) (st' := []) bo_225_174_82f545 rfl ?_
  exact hk7 l0 (l1 + (1 : Int32)) M r h
theorem e_m_write_151 {d : Nat} (hd : 2 ≤ d) (k7 : Nat → Int32 → Mem → Option (Int32 × Mem)) (hk7 : ∀ l0 l1 M r, k7 l0 l1 M = some r → EV d 225 7 [some (.ref l0), some (.int l1), none] [] M (some (.int r.1), r.2)) (l0 : Nat) (l1 : Int32) (M : Mem) (r : Int32 × Mem) (h : f_m_write_151 k7 l0 l1 M = some r) : EV d 225 151 [some (.ref l0), some (.int l1), none] [] M (some (.int r.1), r.2) := by
  unfold f_m_write_151 at h
  refine EV_stq mx_225 (pc' := 152) (L' := [some (.ref l0), some (.int l1), none]) (st' := [.ref l0]) bo_225_151_b28053 rfl ?_
  refine r_gA mx_225 li_225_152 fd_14_22 rfl h (fun a1 h => ?_)
  refine EV_stq mx_225 (pc' := 156) (L' := [some (.ref l0), some (.int l1), none]) (st' := [.int l1, .ref a1]) bo_225_155_2973a9 rfl ?_
  refine r_aI mx_225 li_225_156 h (fun v2 h => ?_)
  refine EV_stq mx_225 (pc' := 158) (L' := [some (.ref l0), some (.int l1), none]) (st' := [.int (1 : Int32), .int v2]) bo_225_157_f223cb rfl ?_
  refine h_le h (fun h hc => ?_) (fun h hc => ?_)
  · refine r_icT mx_225 li_225_158 (by decide) rfl hc ?_
    exact e_m_write_174 hd k7 hk7 l0 l1 M r h
  · refine r_icF mx_225 li_225_158 (by decide) hc ?_
    refine EV_stq mx_225 (pc' := 165) (L' := [some (.ref l0), some (.int l1), none]) (st' := [.ref l0, .int (48 : Int32), .ref l0]) bo_225_161_9eb73d rfl ?_
    refine r_gA mx_225 li_225_165 fd_14_22 rfl h (fun a3 h => ?_)
    refine EV_stq mx_225 (pc' := 169) (L' := [some (.ref l0), some (.int l1), none]) (st' := [.int l1, .ref a3, .int (48 : Int32), .ref l0]) bo_225_168_8f09c4 rfl ?_
    refine r_aI mx_225 li_225_169 h (fun v4 h => ?_)
    refine EV_stq mx_225 (pc' := 171) (L' := [some (.ref l0), some (.int l1), none]) (st' := [.int ((48 : Int32) + v4), .ref l0]) bo_225_170_72150b rfl ?_
    refine h_ck h (fun hc h => ?_)
    refine h_cV h (fun M5 e h => ?_)
    refine EV_call [.ref l0, .int ((48 : Int32) + v4)] [] mx_225 li_225_171 rfl rfl si_14_405 rfl (by decide) (by decide) (by omega) ma_223 rfl (Nat.le_of_ble_eq_true rfl) rfl rfl (Nat.le_of_ble_eq_true rfl) (rc_1 mt_at_223 rfl rfl (by decide) hc) (e_m_writes (by omega) l0 ((48 : Int32) + v4) M _ e) ?_
    show EV d 225 174 [some (.ref l0), some (.int l1), none] [] M5 _
    exact e_m_write_174 hd k7 hk7 l0 l1 M5 r h
theorem e_m_write_145 {d : Nat} (hd : 2 ≤ d) (k7 : Nat → Int32 → Mem → Option (Int32 × Mem)) (hk7 : ∀ l0 l1 M r, k7 l0 l1 M = some r → EV d 225 7 [some (.ref l0), some (.int l1), none] [] M (some (.int r.1), r.2)) (l0 : Nat) (l1 : Int32) (M : Mem) (r : Int32 × Mem) (h : f_m_write_145 k7 l0 l1 M = some r) : EV d 225 145 [some (.ref l0), some (.int l1), none] [] M (some (.int r.1), r.2) := by
  unfold f_m_write_145 at h
  refine EV_stq mx_225 (pc' := 148) (L' := [some (.ref l0), some (.int l1), none]) (st' := [.int (41 : Int32), .ref l0]) bo_225_145_75c003 rfl ?_
  refine h_ck h (fun hc h => ?_)
  refine h_cV h (fun M1 e h => ?_)
  refine EV_call [.ref l0, .int (41 : Int32)] [] mx_225 li_225_148 rfl rfl si_14_405 rfl (by decide) (by decide) (by omega) ma_223 rfl (Nat.le_of_ble_eq_true rfl) rfl rfl (Nat.le_of_ble_eq_true rfl) (rc_1 mt_at_223 rfl rfl (by decide) hc) (e_m_writes (by omega) l0 (41 : Int32) M _ e) ?_
  show EV d 225 151 [some (.ref l0), some (.int l1), none] [] M1 _
  exact e_m_write_151 hd k7 hk7 l0 l1 M1 r h
theorem e_m_write_130 {d : Nat} (hd : 2 ≤ d) (k7 : Nat → Int32 → Mem → Option (Int32 × Mem)) (hk7 : ∀ l0 l1 M r, k7 l0 l1 M = some r → EV d 225 7 [some (.ref l0), some (.int l1), none] [] M (some (.int r.1), r.2)) (l0 : Nat) (l1 : Int32) (l2 : Int32) (M : Mem) (r : Int32 × Mem) (h : f_m_write_130 k7 l0 l1 l2 M = some r) : EV d 225 130 [some (.ref l0), some (.int l1), some (.int l2)] [] M (some (.int r.1), r.2) := by
  unfold f_m_write_130 at h
  refine EV_stq mx_225 (pc' := 132) (L' := [some (.ref l0), some (.int l1), some (.int l2)]) (st' := [.int (3 : Int32), .int l2]) bo_225_130_7ab0fb rfl ?_
  refine h_ge h (fun h hc => ?_) (fun h hc => ?_)
  · refine r_icT mx_225 li_225_132 (by decide) rfl hc ?_
    refine EV_forget (A := [some (.ref l0), some (.int l1), none]) (lsub_of _ _ ⟨Or.inr rfl, ⟨Or.inr rfl, ⟨Or.inl rfl, trivial⟩⟩⟩) ?_
    exact e_m_write_145 hd k7 hk7 l0 l1 M r h
  · refine r_icF mx_225 li_225_132 (by decide) hc ?_
    refine EV_stq mx_225 (pc' := 137) (L' := [some (.ref l0), some (.int l1), some (.int l2)]) (st' := [.ref l0, .ref l0]) bo_225_135_86a7c1 rfl ?_
    refine r_gA mx_225 li_225_137 fd_14_19 rfl h (fun a1 h => ?_)
    refine EV_stq mx_225 (pc' := 141) (L' := [some (.ref l0), some (.int l1), some (.int l2)]) (st' := [.int l1, .ref a1, .ref l0]) bo_225_140_ab601d rfl ?_
    refine r_aI mx_225 li_225_141 h (fun v2 h => ?_)
    refine h_ck h (fun hc h => ?_)
    refine h_cV h (fun M3 e h => ?_)
    refine EV_call [.ref l0, .int v2] [] mx_225 li_225_142 rfl rfl si_14_408 rfl (by decide) (by decide) (by omega) ma_224 rfl (Nat.le_of_ble_eq_true rfl) rfl rfl (Nat.le_of_ble_eq_true rfl) (rc_1 mt_at_224 rfl rfl (by decide) hc) (e_m_writesNumber (by omega) l0 v2 M _ e) ?_
    show EV d 225 145 [some (.ref l0), some (.int l1), some (.int l2)] [] M3 _
    refine EV_forget (A := [some (.ref l0), some (.int l1), none]) (lsub_of _ _ ⟨Or.inr rfl, ⟨Or.inr rfl, ⟨Or.inl rfl, trivial⟩⟩⟩) ?_
    exact e_m_write_145 hd k7 hk7 l0 l1 M3 r h
theorem e_m_write_95 {d : Nat} (hd : 2 ≤ d) (k7 : Nat → Int32 → Mem → Option (Int32 × Mem)) (hk7 : ∀ l0 l1 M r, k7 l0 l1 M = some r → EV d 225 7 [some (.ref l0), some (.int l1), none] [] M (some (.int r.1), r.2)) (l0 : Nat) (l1 : Int32) (l2 : Int32) (s0 : Int32) (s1 : Nat) (M : Mem) (r : Int32 × Mem) (h : f_m_write_95 k7 l0 l1 l2 s0 s1 M = some r) : EV d 225 95 [some (.ref l0), some (.int l1), some (.int l2)] [.int s0, .ref s1] M (some (.int r.1), r.2) := by
  unfold f_m_write_95 at h
  refine h_ck h (fun hc h => ?_)
  refine h_cV h (fun M1 e h => ?_)
  refine EV_call [.ref s1, .int s0] [] mx_225 li_225_95 rfl rfl si_14_405 rfl (by decide) (by decide) (by omega) ma_223 rfl (Nat.le_of_ble_eq_true rfl) rfl rfl (Nat.le_of_ble_eq_true rfl) (rc_1 mt_at_223 rfl rfl (by decide) hc) (e_m_writes (by omega) s1 s0 M _ e) ?_
  show EV d 225 98 [some (.ref l0), some (.int l1), some (.int l2)] [] M1 _
  refine EV_stq mx_225 (pc' := 100) (L' := [some (.ref l0), some (.int l1), some (.int l2)]) (st' := [.int (5 : Int32), .int l2]) bo_225_98_51a86b rfl ?_
  refine h_ge h (fun h hc => ?_) (fun h hc => ?_)
  · refine r_icT mx_225 li_225_100 (by decide) rfl hc ?_
    refine EV_forget (A := [some (.ref l0), some (.int l1), none]) (lsub_of _ _ ⟨Or.inr rfl, ⟨Or.inr rfl, ⟨Or.inl rfl, trivial⟩⟩⟩) ?_
    exact e_m_write_151 hd k7 hk7 l0 l1 M1 r h
  · refine r_icF mx_225 li_225_100 (by decide) hc ?_
    refine EV_stq mx_225 (pc' := 106) (L' := [some (.ref l0), some (.int l1), some (.int l2)]) (st' := [.int (40 : Int32), .ref l0]) bo_225_103_b58a7c rfl ?_
    refine h_ck h (fun hc h => ?_)
    refine h_cV h (fun M2 e h => ?_)
    refine EV_call [.ref l0, .int (40 : Int32)] [] mx_225 li_225_106 rfl rfl si_14_405 rfl (by decide) (by decide) (by omega) ma_223 rfl (Nat.le_of_ble_eq_true rfl) rfl rfl (Nat.le_of_ble_eq_true rfl) (rc_1 mt_at_223 rfl rfl (by decide) hc) (e_m_writes (by omega) l0 (40 : Int32) M1 _ e) ?_
    show EV d 225 109 [some (.ref l0), some (.int l1), some (.int l2)] [] M2 _
    refine EV_stq mx_225 (pc' := 111) (L' := [some (.ref l0), some (.int l1), some (.int l2)]) (st' := [.ref l0, .ref l0]) bo_225_109_644814 rfl ?_
    refine r_gA mx_225 li_225_111 fd_14_16 rfl h (fun a3 h => ?_)
    refine EV_stq mx_225 (pc' := 115) (L' := [some (.ref l0), some (.int l1), some (.int l2)]) (st' := [.int l1, .ref a3, .ref l0]) bo_225_114_28d19b rfl ?_
    refine r_aI mx_225 li_225_115 h (fun v4 h => ?_)
    refine h_ck h (fun hc h => ?_)
    refine h_cV h (fun M5 e h => ?_)
    refine EV_call [.ref l0, .int v4] [] mx_225 li_225_116 rfl rfl si_14_408 rfl (by decide) (by decide) (by omega) ma_224 rfl (Nat.le_of_ble_eq_true rfl) rfl rfl (Nat.le_of_ble_eq_true rfl) (rc_1 mt_at_224 rfl rfl (by decide) hc) (e_m_writesNumber (by omega) l0 v4 M2 _ e) ?_
    show EV d 225 119 [some (.ref l0), some (.int l1), some (.int l2)] [] M5 _
    refine EV_stq mx_225 (pc' := 121) (L' := [some (.ref l0), some (.int l1), some (.int l2)]) (st' := [.int (3 : Int32), .int l2]) bo_225_119_c92df6 rfl ?_
    refine h_ge h (fun h hc => ?_) (fun h hc => ?_)
    · refine r_icT mx_225 li_225_121 (by decide) rfl hc ?_
      exact e_m_write_130 hd k7 hk7 l0 l1 l2 M5 r h
    · refine r_icF mx_225 li_225_121 (by decide) hc ?_
      refine EV_stq mx_225 (pc' := 127) (L' := [some (.ref l0), some (.int l1), some (.int l2)]) (st' := [.int (44 : Int32), .ref l0]) bo_225_124_a52981 rfl ?_
      refine h_ck h (fun hc h => ?_)
      refine h_cV h (fun M6 e h => ?_)
      refine EV_call [.ref l0, .int (44 : Int32)] [] mx_225 li_225_127 rfl rfl si_14_405 rfl (by decide) (by decide) (by omega) ma_223 rfl (Nat.le_of_ble_eq_true rfl) rfl rfl (Nat.le_of_ble_eq_true rfl) (rc_1 mt_at_223 rfl rfl (by decide) hc) (e_m_writes (by omega) l0 (44 : Int32) M5 _ e) ?_
      show EV d 225 130 [some (.ref l0), some (.int l1), some (.int l2)] [] M6 _
      exact e_m_write_130 hd k7 hk7 l0 l1 l2 M6 r h
theorem e_m_write_33 {d : Nat} (hd : 2 ≤ d) (k7 : Nat → Int32 → Mem → Option (Int32 × Mem)) (hk7 : ∀ l0 l1 M r, k7 l0 l1 M = some r → EV d 225 7 [some (.ref l0), some (.int l1), none] [] M (some (.int r.1), r.2)) (l0 : Nat) (l1 : Int32) (l2 : Int32) (M : Mem) (r : Int32 × Mem) (h : f_m_write_33 k7 l0 l1 l2 M = some r) : EV d 225 33 [some (.ref l0), some (.int l1), some (.int l2)] [] M (some (.int r.1), r.2) := by
  unfold f_m_write_33 at h
  refine EV_stq mx_225 (pc' := 35) (L' := [some (.ref l0), some (.int l1), some (.int l2)]) (st' := [.int l2, .ref l0]) bo_225_33_9ed66c rfl ?_
  refine h_ne h (fun h hc => ?_) (fun h hc => ?_)
  · refine r_ifF mx_225 li_225_35 (by decide) hc ?_
    refine EV_stq mx_225 (pc' := 95) (L' := [some (.ref l0), some (.int l1), some (.int l2)]) (st' := [.int (109 : Int32), .ref l0]) bo_225_38_475f46 rfl ?_
    exact e_m_write_95 hd k7 hk7 l0 l1 l2 (109 : Int32) l0 M r h
  · refine r_ifT mx_225 li_225_35 (by decide) rfl hc ?_
    refine EV_stq mx_225 (pc' := 45) (L' := [some (.ref l0), some (.int l1), some (.int l2)]) (st' := [.int (1 : Int32), .int l2, .ref l0]) bo_225_43_98bd08 rfl ?_
    refine h_ne h (fun h hc => ?_) (fun h hc => ?_)
    · refine r_icF mx_225 li_225_45 (by decide) hc ?_
      refine EV_stq mx_225 (pc' := 95) (L' := [some (.ref l0), some (.int l1), some (.int l2)]) (st' := [.int (102 : Int32), .ref l0]) bo_225_48_ef5aec rfl ?_
      exact e_m_write_95 hd k7 hk7 l0 l1 l2 (102 : Int32) l0 M r h
    · refine r_icT mx_225 li_225_45 (by decide) rfl hc ?_
      refine EV_stq mx_225 (pc' := 55) (L' := [some (.ref l0), some (.int l1), some (.int l2)]) (st' := [.int (2 : Int32), .int l2, .ref l0]) bo_225_53_2770e1 rfl ?_
      refine h_ne h (fun h hc => ?_) (fun h hc => ?_)
      · refine r_icF mx_225 li_225_55 (by decide) hc ?_
        refine EV_stq mx_225 (pc' := 95) (L' := [some (.ref l0), some (.int l1), some (.int l2)]) (st' := [.int (107 : Int32), .ref l0]) bo_225_58_8f1ca4 rfl ?_
        exact e_m_write_95 hd k7 hk7 l0 l1 l2 (107 : Int32) l0 M r h
      · refine r_icT mx_225 li_225_55 (by decide) rfl hc ?_
        refine EV_stq mx_225 (pc' := 65) (L' := [some (.ref l0), some (.int l1), some (.int l2)]) (st' := [.int (3 : Int32), .int l2, .ref l0]) bo_225_63_92b333 rfl ?_
        refine h_ne h (fun h hc => ?_) (fun h hc => ?_)
        · refine r_icF mx_225 li_225_65 (by decide) hc ?_
          refine EV_stq mx_225 (pc' := 95) (L' := [some (.ref l0), some (.int l1), some (.int l2)]) (st' := [.int (99 : Int32), .ref l0]) bo_225_68_c504be rfl ?_
          exact e_m_write_95 hd k7 hk7 l0 l1 l2 (99 : Int32) l0 M r h
        · refine r_icT mx_225 li_225_65 (by decide) rfl hc ?_
          refine EV_stq mx_225 (pc' := 75) (L' := [some (.ref l0), some (.int l1), some (.int l2)]) (st' := [.int (4 : Int32), .int l2, .ref l0]) bo_225_73_f02d4c rfl ?_
          refine h_ne h (fun h hc => ?_) (fun h hc => ?_)
          · refine r_icF mx_225 li_225_75 (by decide) hc ?_
            refine EV_stq mx_225 (pc' := 95) (L' := [some (.ref l0), some (.int l1), some (.int l2)]) (st' := [.int (115 : Int32), .ref l0]) bo_225_78_376c49 rfl ?_
            exact e_m_write_95 hd k7 hk7 l0 l1 l2 (115 : Int32) l0 M r h
          · refine r_icT mx_225 li_225_75 (by decide) rfl hc ?_
            refine EV_stq mx_225 (pc' := 85) (L' := [some (.ref l0), some (.int l1), some (.int l2)]) (st' := [.int (5 : Int32), .int l2, .ref l0]) bo_225_83_ae8d26 rfl ?_
            refine h_ne h (fun h hc => ?_) (fun h hc => ?_)
            · refine r_icF mx_225 li_225_85 (by decide) hc ?_
              refine EV_stq mx_225 (pc' := 95) (L' := [some (.ref l0), some (.int l1), some (.int l2)]) (st' := [.int (100 : Int32), .ref l0]) bo_225_88_8d218a rfl ?_
              exact e_m_write_95 hd k7 hk7 l0 l1 l2 (100 : Int32) l0 M r h
            · refine r_icT mx_225 li_225_85 (by decide) rfl hc ?_
              refine EV_stq mx_225 (pc' := 95) (L' := [some (.ref l0), some (.int l1), some (.int l2)]) (st' := [.int (114 : Int32), .ref l0]) bo_225_93_7021a1 rfl ?_
              exact e_m_write_95 hd k7 hk7 l0 l1 l2 (114 : Int32) l0 M r h
theorem e_m_write_7 {d : Nat} (hd : 2 ≤ d) : ∀ (n : Nat) (l0 : Nat) (l1 : Int32) (M : Mem) (r : Int32 × Mem), f_m_write_7 n l0 l1 M = some r → EV d 225 7 [some (.ref l0), some (.int l1), none] [] M (some (.int r.1), r.2) := by
  intro n
  induction n with
  | zero => intro l0 l1 M r h; cases h
  | succ n ih =>
    intro l0 l1 M r h
    unfold f_m_write_7 at h
    refine EV_stq mx_225 (pc' := 9) (L' := [some (.ref l0), some (.int l1), none]) (st' := [.ref l0, .int l1]) bo_225_7_7eef78 rfl ?_
    refine r_gI mx_225 li_225_9 fd_14_196 ⟨by decide, by decide⟩ h (fun v1 h => ?_)
    refine h_gt h (fun h hc => ?_) (fun h hc => ?_)
    · refine r_icT mx_225 li_225_12 (by decide) rfl hc ?_
      refine EV_stq mx_225 (pc' := 181) (L' := [some (.ref l0), some (.int l1), none]) (st' := [.ref l0]) bo_225_180_b82c80 rfl ?_
      refine r_gA mx_225 li_225_181 fd_14_22 rfl h (fun a2 h => ?_)
      refine EV_stq mx_225 (pc' := 185) (L' := [some (.ref l0), some (.int l1), none]) (st' := [.ref l0, .ref a2]) bo_225_184_35f04e rfl ?_
      refine h_ck h (fun hc h => ?_)
      refine h_cI h (fun v4 M3 e h => ?_)
      refine EV_call [.ref l0] [.ref a2] mx_225 li_225_185 rfl rfl si_14_199 rfl (by decide) (by decide) (by omega) ma_140 rfl (Nat.le_of_ble_eq_true rfl) rfl rfl (Nat.le_of_ble_eq_true rfl) (rc_1 mt_at_140 rfl rfl (by decide) hc) (e_m_sink (by omega) l0 M _ e) ?_
      show EV d 225 188 [some (.ref l0), some (.int l1), none] [.int v4, .ref a2] M3 _
      refine r_aI mx_225 li_225_188 h (fun v5 h => ?_)
      refine EV_stq mx_225 (pc' := 190) (L' := [some (.ref l0), some (.int l1), none]) (st' := [.int (1 : Int32), .int v5]) bo_225_189_6262b6 rfl ?_
      refine h_le h (fun h hc => ?_) (fun h hc => ?_)
      · refine r_icT mx_225 li_225_190 (by decide) rfl hc ?_
        refine EV_forget (A := [some (.ref l0), none, none]) (lsub_of _ _ ⟨Or.inr rfl, ⟨Or.inl rfl, ⟨Or.inl rfl, trivial⟩⟩⟩) ?_
        exact e_m_write_199 hd l0 M3 r h
      · refine r_icF mx_225 li_225_190 (by decide) hc ?_
        refine EV_stq mx_225 (pc' := 196) (L' := [some (.ref l0), some (.int l1), none]) (st' := [.int (36 : Int32), .ref l0]) bo_225_193_16536c rfl ?_
        refine h_ck h (fun hc h => ?_)
        refine h_cV h (fun M6 e h => ?_)
        refine EV_call [.ref l0, .int (36 : Int32)] [] mx_225 li_225_196 rfl rfl si_14_405 rfl (by decide) (by decide) (by omega) ma_223 rfl (Nat.le_of_ble_eq_true rfl) rfl rfl (Nat.le_of_ble_eq_true rfl) (rc_1 mt_at_223 rfl rfl (by decide) hc) (e_m_writes (by omega) l0 (36 : Int32) M3 _ e) ?_
        show EV d 225 199 [some (.ref l0), some (.int l1), none] [] M6 _
        refine EV_forget (A := [some (.ref l0), none, none]) (lsub_of _ _ ⟨Or.inr rfl, ⟨Or.inl rfl, ⟨Or.inl rfl, trivial⟩⟩⟩) ?_
        exact e_m_write_199 hd l0 M6 r h
    · refine r_icF mx_225 li_225_12 (by decide) hc ?_
      refine EV_stq mx_225 (pc' := 16) (L' := [some (.ref l0), some (.int l1), none]) (st' := [.ref l0]) bo_225_15_be4250 rfl ?_
      refine r_gA mx_225 li_225_16 fd_14_13 rfl h (fun a7 h => ?_)
      refine EV_stq mx_225 (pc' := 20) (L' := [some (.ref l0), some (.int l1), none]) (st' := [.int l1, .ref a7]) bo_225_19_1a8444 rfl ?_
      refine r_aI mx_225 li_225_20 h (fun v8 h => ?_)
      refine EV_stq mx_225 (pc' := 24) (L' := [some (.ref l0), some (.int l1), some (.int v8)]) (st' := [.int (1 : Int32), .int l1]) bo_225_21_cd309e rfl ?_
      refine h_le h (fun h hc => ?_) (fun h hc => ?_)
      · refine r_icT mx_225 li_225_24 (by decide) rfl hc ?_
        exact e_m_write_33 hd _ ih l0 l1 v8 M r h
      · refine r_icF mx_225 li_225_24 (by decide) hc ?_
        refine EV_stq mx_225 (pc' := 30) (L' := [some (.ref l0), some (.int l1), some (.int v8)]) (st' := [.int (124 : Int32), .ref l0]) bo_225_27_fe3fdb rfl ?_
        refine h_ck h (fun hc h => ?_)
        refine h_cV h (fun M9 e h => ?_)
        refine EV_call [.ref l0, .int (124 : Int32)] [] mx_225 li_225_30 rfl rfl si_14_405 rfl (by decide) (by decide) (by omega) ma_223 rfl (Nat.le_of_ble_eq_true rfl) rfl rfl (Nat.le_of_ble_eq_true rfl) (rc_1 mt_at_223 rfl rfl (by decide) hc) (e_m_writes (by omega) l0 (124 : Int32) M _ e) ?_
        show EV d 225 33 [some (.ref l0), some (.int l1), some (.int v8)] [] M9 _
        exact e_m_write_33 hd _ ih l0 l1 v8 M9 r h
theorem e_m_write {d : Nat} (hd : 2 ≤ d) (p0 : Nat) (M : Mem) (r : Int32 × Mem) (h : f_m_write p0 M = some r) : EV d 225 0 (entL 3 [.ref p0]) [] M (some (.int r.1), r.2) := by
  show EV d 225 0 [some (.ref p0), none, none] [] M _
  unfold f_m_write at h
  refine EV_stq mx_225 (pc' := 2) (L' := [some (.ref p0), none, none]) (st' := [.int (0 : Int32), .ref p0]) bo_225_0_264884 rfl ?_
  refine r_pI mx_225 li_225_2 fd_14_402 (Or.inl rfl) rfl h (fun M1 h => ?_)
  refine EV_stq mx_225 (pc' := 7) (L' := [some (.ref p0), some (.int (1 : Int32)), none]) (st' := []) bo_225_5_ca77c4 rfl ?_
  exact e_m_write_7 hd FU p0 (1 : Int32) M1 r h
theorem e_x_written {d : Nat} (hd : 4 ≤ d) (p0 : Nat) (p1 : Int32) (M : Mem) (r : Int32 × Mem) (h : f_x_written p0 p1 M = some r) : EV d 226 0 (entL 2 [.ref p0, .int p1]) [] M (some (.int r.1), r.2) := by
  show EV d 226 0 [some (.ref p0), some (.int p1)] [] M _
  unfold f_x_written at h
  refine EV_stq mx_226 (pc' := 1) (L' := [some (.ref p0), some (.int p1)]) (st' := [.int p1]) bo_226_0_8d5162 rfl ?_
  refine h_lt h (fun h hc => ?_) (fun h hc => ?_)
  · refine r_ifT mx_226 li_226_1 (by decide) rfl hc ?_
    refine EV_stq mx_226 (pc' := 28) (L' := [some (.ref p0), some (.int p1)]) (st' := [.int (-1000000001 : Int32)]) bo_226_15_115ced rfl ?_
    obtain rfl := Option.some.inj h
    exact r_ret mx_226 li_226_28 rfl ro_int
  · refine r_ifF mx_226 li_226_1 (by decide) hc ?_
    refine EV_stq mx_226 (pc' := 6) (L' := [some (.ref p0), some (.int p1)]) (st' := [.ref p0, .int p1]) bo_226_4_40e659 rfl ?_
    refine r_gA mx_226 li_226_6 fd_13_16 rfl h (fun a1 h => ?_)
    refine h_ck h (fun hc h => ?_)
    refine h_cI h (fun v3 M2 e h => ?_)
    refine EV_call [.ref a1] [.int p1] mx_226 li_226_9 rfl rfl si_13_52 rfl (by decide) (by decide) (by omega) ma_17 rfl (Nat.le_of_ble_eq_true rfl) rfl rfl (Nat.le_of_ble_eq_true rfl) (rc_1 mt_at_17 rfl rfl (by decide) hc) (e_sb_length (by omega) a1 M _ e) ?_
    show EV d 226 12 [some (.ref p0), some (.int p1)] [.int v3, .int p1] M2 _
    refine h_lt h (fun h hc => ?_) (fun h hc => ?_)
    · refine r_icT mx_226 li_226_12 (by decide) rfl hc ?_
      refine EV_stq mx_226 (pc' := 21) (L' := [some (.ref p0), some (.int p1)]) (st' := [.ref p0]) bo_226_20_baa9a0 rfl ?_
      refine r_gA mx_226 li_226_21 fd_13_16 rfl h (fun a4 h => ?_)
      refine EV_stq mx_226 (pc' := 25) (L' := [some (.ref p0), some (.int p1)]) (st' := [.int p1, .ref a4]) bo_226_24_99aa1d rfl ?_
      refine h_ck h (fun hc h => ?_)
      refine h_cI h (fun v6 M5 e h => ?_)
      refine EV_call [.ref a4, .int p1] [] mx_226 li_226_25 rfl rfl si_13_285 rfl (by decide) (by decide) (by omega) ma_34 rfl (Nat.le_of_ble_eq_true rfl) rfl rfl (Nat.le_of_ble_eq_true rfl) (rc_1 mt_at_34 rfl rfl (by decide) hc) (e_sb_charAt (by omega) a4 p1 M2 _ e) ?_
      show EV d 226 28 [some (.ref p0), some (.int p1)] [.int v6] M5 _
      obtain rfl := Option.some.inj h
      exact r_ret mx_226 li_226_28 rfl ro_int
    · refine r_icF mx_226 li_226_12 (by decide) hc ?_
      refine EV_stq mx_226 (pc' := 28) (L' := [some (.ref p0), some (.int p1)]) (st' := [.int (-1000000001 : Int32)]) bo_226_15_115ced rfl ?_
      obtain rfl := Option.some.inj h
      exact r_ret mx_226 li_226_28 rfl ro_int
theorem e_m_written {d : Nat} (hd : 1 ≤ d) (p0 : Nat) (p1 : Int32) (M : Mem) (r : Int32 × Mem) (h : f_m_written p0 p1 M = some r) : EV d 227 0 (entL 2 [.ref p0, .int p1]) [] M (some (.int r.1), r.2) := by
  show EV d 227 0 [some (.ref p0), some (.int p1)] [] M _
  unfold f_m_written at h
  refine EV_stq mx_227 (pc' := 3) (L' := [some (.ref p0), some (.int p1)]) (st' := [.ref p0, .int (0 : Int32), .int p1]) bo_227_0_8b3750 rfl ?_
  refine r_gI mx_227 li_227_3 fd_14_402 ⟨by decide, by decide⟩ h (fun v1 h => ?_)
  refine EV_stq mx_227 (pc' := 8) (L' := [some (.ref p0), some (.int p1)]) (st' := [.int (v1 - (1 : Int32)), .int (0 : Int32), .int p1]) bo_227_6_e618ed rfl ?_
  refine h_cI h (fun v3 M2 e h => ?_)
  refine EV_call [.int p1, .int (0 : Int32), .int (v1 - (1 : Int32))] [] mx_227 li_227_8 rfl rfl si_14_203 rfl (by decide) (by decide) (by omega) ma_29 rfl (Nat.le_of_ble_eq_true rfl) rfl rfl (Nat.le_of_ble_eq_true rfl) rfl (e_m_isIn (by omega) p1 (0 : Int32) (v1 - (1 : Int32)) M _ e) ?_
  show EV d 227 11 [some (.ref p0), some (.int p1)] [.int v3] M2 _
  refine h_eq h (fun h hc => ?_) (fun h hc => ?_)
  · refine r_ifT mx_227 li_227_11 (by decide) rfl hc ?_
    refine EV_stq mx_227 (pc' := 26) (L' := [some (.ref p0), some (.int p1)]) (st' := [.int (-1000000001 : Int32)]) bo_227_23_b37e12 rfl ?_
    obtain rfl := Option.some.inj h
    exact r_ret mx_227 li_227_26 rfl ro_int
  · refine r_ifF mx_227 li_227_11 (by decide) hc ?_
    refine EV_stq mx_227 (pc' := 15) (L' := [some (.ref p0), some (.int p1)]) (st' := [.ref p0]) bo_227_14_3e81ce rfl ?_
    refine r_gA mx_227 li_227_15 fd_14_193 rfl h (fun a4 h => ?_)
    refine EV_stq mx_227 (pc' := 19) (L' := [some (.ref p0), some (.int p1)]) (st' := [.int p1, .ref a4]) bo_227_18_2b31d8 rfl ?_
    refine r_aI mx_227 li_227_19 h (fun v5 h => ?_)
    refine EV_stq mx_227 (pc' := 26) (L' := [some (.ref p0), some (.int p1)]) (st' := [.int v5]) bo_227_20_baa9a0 rfl ?_
    obtain rfl := Option.some.inj h
    exact r_ret mx_227 li_227_26 rfl ro_int
theorem e_x_clear {d : Nat} (hd : 5 ≤ d) (p0 : Nat) (M : Mem) (r : Int32 × Mem) (h : f_x_clear p0 M = some r) : EV d 228 0 (entL 2 [.ref p0]) [] M (some (.int r.1), r.2) := by
  show EV d 228 0 [some (.ref p0), none] [] M _
  unfold f_x_clear at h
  refine EV_stq mx_228 (pc' := 1) (L' := [some (.ref p0), none]) (st' := [.ref p0]) bo_228_0_8d5162 rfl ?_
  refine r_gA mx_228 li_228_1 fd_13_31 rfl h (fun a1 h => ?_)
  refine r_gA mx_228 li_228_4 fd_13_101 rfl h (fun a2 h => ?_)
  refine r_gI mx_228 li_228_7 fd_13_105 ⟨by decide, by decide⟩ h (fun v3 h => ?_)
  refine EV_stq mx_228 (pc' := 12) (L' := [some (.ref p0), some (.int v3)]) (st' := [.ref p0]) bo_228_10_42a704 rfl ?_
  refine r_gA mx_228 li_228_12 fd_13_31 rfl h (fun a4 h => ?_)
  refine r_gA mx_228 li_228_15 fd_13_101 rfl h (fun a5 h => ?_)
  refine h_ck h (fun hc h => ?_)
  refine h_cV h (fun M6 e h => ?_)
  refine EV_call [.ref a5] [] mx_228 li_228_18 rfl rfl si_13_289 rfl (by decide) (by decide) (by omega) ma_63 rfl (Nat.le_of_ble_eq_true rfl) rfl rfl (Nat.le_of_ble_eq_true rfl) (rc_1 mt_at_63 rfl rfl (by decide) hc) (e_rc_wipe (by omega) a5 M _ e) ?_
  show EV d 228 21 [some (.ref p0), some (.int v3)] [] M6 _
  refine EV_stq mx_228 (pc' := 22) (L' := [some (.ref p0), some (.int v3)]) (st' := [.ref p0]) bo_228_21_46c79c rfl ?_
  refine r_gA mx_228 li_228_22 fd_13_31 rfl h (fun a7 h => ?_)
  refine h_ck h (fun hc h => ?_)
  refine h_cV h (fun M8 e h => ?_)
  refine EV_call [.ref a7] [] mx_228 li_228_25 rfl rfl si_13_292 rfl (by decide) (by decide) (by omega) ma_69 rfl (Nat.le_of_ble_eq_true rfl) rfl rfl (Nat.le_of_ble_eq_true rfl) (rc_1 mt_at_69 rfl rfl (by decide) hc) (e_sm_beginAnew (by omega) a7 M6 _ e) ?_
  show EV d 228 28 [some (.ref p0), some (.int v3)] [] M8 _
  refine EV_stq mx_228 (pc' := 29) (L' := [some (.ref p0), some (.int v3)]) (st' := [.ref p0]) bo_228_28_f39cd0 rfl ?_
  refine r_gA mx_228 li_228_29 fd_13_40 rfl h (fun a9 h => ?_)
  refine h_ck h (fun hc h => ?_)
  refine h_cV h (fun M10 e h => ?_)
  refine EV_call [.ref a9] [] mx_228 li_228_32 rfl rfl si_13_77 rfl (by decide) (by decide) (by omega) ma_71 rfl (Nat.le_of_ble_eq_true rfl) rfl rfl (Nat.le_of_ble_eq_true rfl) (rc_1 mt_at_71 rfl rfl (by decide) hc) (e_pl_forget (by omega) a9 M8 _ e) ?_
  show EV d 228 35 [some (.ref p0), some (.int v3)] [] M10 _
  refine EV_stq mx_228 (pc' := 36) (L' := [some (.ref p0), some (.int v3)]) (st' := [.int v3]) bo_228_35_a976ef rfl ?_
  obtain rfl := Option.some.inj h
  exact r_ret mx_228 li_228_36 rfl ro_int
theorem e_m_clear {d : Nat} (hd : 2 ≤ d) (p0 : Nat) (M : Mem) (r : Int32 × Mem) (h : f_m_clear p0 M = some r) : EV d 229 0 (entL 2 [.ref p0]) [] M (some (.int r.1), r.2) := by
  show EV d 229 0 [some (.ref p0), none] [] M _
  unfold f_m_clear at h
  refine EV_stq mx_229 (pc' := 1) (L' := [some (.ref p0), none]) (st' := [.ref p0]) bo_229_0_8d5162 rfl ?_
  refine r_gI mx_229 li_229_1 fd_14_275 ⟨by decide, by decide⟩ h (fun v1 h => ?_)
  refine EV_stq mx_229 (pc' := 7) (L' := [some (.ref p0), some (.int v1)]) (st' := [.int (0 : Int32), .ref p0]) bo_229_4_607491 rfl ?_
  refine r_pI mx_229 li_229_7 fd_14_275 (Or.inl rfl) rfl h (fun M2 h => ?_)
  refine EV_stq mx_229 (pc' := 11) (L' := [some (.ref p0), some (.int v1)]) (st' := [.ref p0]) bo_229_10_2a30f5 rfl ?_
  refine h_ck h (fun hc h => ?_)
  refine h_cV h (fun M3 e h => ?_)
  refine EV_call [.ref p0] [] mx_229 li_229_11 rfl rfl si_14_240 rfl (by decide) (by decide) (by omega) ma_80 rfl (Nat.le_of_ble_eq_true rfl) rfl rfl (Nat.le_of_ble_eq_true rfl) (rc_1 mt_at_80 rfl rfl (by decide) hc) (e_m_begins (by omega) p0 M2 _ e) ?_
  show EV d 229 14 [some (.ref p0), some (.int v1)] [] M3 _
  refine EV_stq mx_229 (pc' := 15) (L' := [some (.ref p0), some (.int v1)]) (st' := [.int v1]) bo_229_14_3e81ce rfl ?_
  obtain rfl := Option.some.inj h
  exact r_ret mx_229 li_229_15 rfl ro_int
theorem e_w_law_772 {d : Nat} (hd : 14 ≤ d) (k18 : Nat → Nat → Int32 → Mem → Option (Int32 × Mem)) (hk18 : ∀ l1 l2 l3 M r, k18 l1 l2 l3 M = some r → EV d 230 18 [some (.retAddr 0), some (.ref l1), some (.ref l2), some (.int l3)] [] M (some (.int r.1), r.2)) (l1 : Nat) (l2 : Nat) (l3 : Int32) (M : Mem) (r : Int32 × Mem) (h : f_w_law_772 k18 l1 l2 l3 M = some r) : EV d 230 772 [some (.retAddr 0), some (.ref l1), some (.ref l2), some (.int l3)] [] M (some (.int r.1), r.2) := by
  unfold f_w_law_772 at h
  refine EV_stq mx_230 (pc' := 18) (L' := [some (.retAddr 0), some (.ref l1), some (.ref l2), some (.int (l3 + (5 : Int32)))]) (st' := []) bo_230_772_daf7e2 rfl ?_
  exact hk18 l1 l2 (l3 + (5 : Int32)) M r h
theorem e_w_law_18 {d : Nat} (hd : 14 ≤ d) : ∀ (n : Nat) (l1 : Nat) (l2 : Nat) (l3 : Int32) (M : Mem) (r : Int32 × Mem), f_w_law_18 n l1 l2 l3 M = some r → EV d 230 18 [some (.retAddr 0), some (.ref l1), some (.ref l2), some (.int l3)] [] M (some (.int r.1), r.2) := by
  intro n
  induction n with
  | zero => intro l1 l2 l3 M r h; cases h
  | succ n ih =>
    intro l1 l2 l3 M r h
    unfold f_w_law_18 at h
    refine EV_stq mx_230 (pc' := 23) (L' := [some (.retAddr 0), some (.ref l1), some (.ref l2), some (.int l3)]) (st' := [.int ((Int32.ofNat (mX M).1) - (5 : Int32)), .int l3]) bo_230_18_95a4c9 rfl ?_
    refine h_gt h (fun h hc => ?_) (fun h hc => ?_)
    · refine r_icT mx_230 li_230_23 (by decide) rfl hc ?_
      refine EV_stq mx_230 (pc' := 779) (L' := [some (.retAddr 0), some (.ref l1), some (.ref l2), some (.int l3)]) (st' := [.int (1 : Int32)]) bo_230_778_f2c47b rfl ?_
      obtain rfl := Option.some.inj h
      exact r_ret mx_230 li_230_779 rfl (ro_nar (t := .boolean) (by decide) rfl)
    · refine r_icF mx_230 li_230_23 (by decide) hc ?_
      refine EV_stq mx_230 (pc' := 28) (L' := [some (.retAddr 0), some (.ref l1), some (.ref l2), some (.int l3)]) (st' := [.int l3, .retAddr 0]) bo_230_26_539da0 rfl ?_
      refine r_aX mx_230 li_230_28 h (fun v1 h => ?_)
      refine EV_stq mx_230 (pc' := 32) (L' := [some (.retAddr 0), some (.ref l1), some (.ref l2), some (.int l3)]) (st' := [.int (v1 &&& (31 : Int32))]) bo_230_29_3cf161 rfl ?_
      refine r_nm h (fun v2 h => ?_)
      refine h_sw h (fun hh e0 => ?_) (fun h e0 => ?_)
      · clear h
        subst e0
        have h := hh
        clear hh
        refine r_tsI (off := 104) mx_230 li_230_32 (by decide +kernel) (by decide +kernel) (by decide) rfl ?_
        refine EV_stq mx_230 (pc' := 141) (L' := [some (.retAddr 0), some (.ref l1), some (.ref l2), some (.int l3)]) (st' := [.int (l3 + (1 : Int32)), .retAddr 0, .ref l1]) bo_230_136_e764b7 rfl ?_
        refine r_aX mx_230 li_230_141 h (fun v3 h => ?_)
        refine EV_stq mx_230 (pc' := 146) (L' := [some (.retAddr 0), some (.ref l1), some (.ref l2), some (.int l3)]) (st' := [.int (l3 + (2 : Int32)), .retAddr 0, .int v3, .ref l1]) bo_230_142_97b6e1 rfl ?_
        refine r_aX mx_230 li_230_146 h (fun v4 h => ?_)
        refine h_ck h (fun hc h => ?_)
        refine h_cI h (fun v6 M5 e h => ?_)
        refine EV_call [.ref l1, .int v3, .int v4] [] mx_230 li_230_147 rfl rfl si_22_13 rfl (by decide) (by decide) (by omega) ma_28 rfl (Nat.le_of_ble_eq_true rfl) rfl rfl (Nat.le_of_ble_eq_true rfl) (rc_1 mt_at_28 rfl rfl (by decide) hc) (e_x_append (by omega) l1 v3 v4 M _ e) ?_
        show EV d 230 150 [some (.retAddr 0), some (.ref l1), some (.ref l2), some (.int l3)] [.int v6] M5 _
        refine EV_stq mx_230 (pc' := 155) (L' := [some (.retAddr 0), some (.ref l1), some (.ref l2), some (.int l3)]) (st' := [.int (l3 + (1 : Int32)), .retAddr 0, .ref l2, .int v6]) bo_230_150_300f83 rfl ?_
        refine r_aX mx_230 li_230_155 h (fun v7 h => ?_)
        refine EV_stq mx_230 (pc' := 160) (L' := [some (.retAddr 0), some (.ref l1), some (.ref l2), some (.int l3)]) (st' := [.int (l3 + (2 : Int32)), .retAddr 0, .int v7, .ref l2, .int v6]) bo_230_156_fa80c4 rfl ?_
        refine r_aX mx_230 li_230_160 h (fun v8 h => ?_)
        refine h_ck h (fun hc h => ?_)
        refine h_cI h (fun v10 M9 e h => ?_)
        refine EV_call [.ref l2, .int v7, .int v8] [.int v6] mx_230 li_230_161 rfl rfl si_22_17 rfl (by decide) (by decide) (by omega) ma_30 rfl (Nat.le_of_ble_eq_true rfl) rfl rfl (Nat.le_of_ble_eq_true rfl) (rc_1 mt_at_30 rfl rfl (by decide) hc) (e_m_append (by omega) l2 v7 v8 M5 _ e) ?_
        show EV d 230 164 [some (.retAddr 0), some (.ref l1), some (.ref l2), some (.int l3)] [.int v10, .int v6] M9 _
        refine h_eq h (fun h hc => ?_) (fun h hc => ?_)
        · refine r_icT mx_230 li_230_164 (by decide) rfl hc ?_
          exact e_w_law_772 hd _ ih l1 l2 l3 M9 r h
        · refine r_icF mx_230 li_230_164 (by decide) hc ?_
          refine EV_stq mx_230 (pc' := 168) (L' := [some (.retAddr 0), some (.ref l1), some (.ref l2), some (.int l3)]) (st' := [.int (0 : Int32)]) bo_230_167_00076e rfl ?_
          obtain rfl := Option.some.inj h
          exact r_ret mx_230 li_230_168 rfl (ro_nar (t := .boolean) (by decide) rfl)
      refine h_sw h (fun hh e1 => ?_) (fun h e1 => ?_)
      · clear h
        subst e1
        have h := hh
        clear hh
        refine r_tsI (off := 137) mx_230 li_230_32 (by decide +kernel) (by decide +kernel) (by decide) rfl ?_
        refine EV_stq mx_230 (pc' := 170) (L' := [some (.retAddr 0), some (.ref l1), some (.ref l2), some (.int l3)]) (st' := [.ref l1]) bo_230_169_66a7ab rfl ?_
        refine h_ck h (fun hc h => ?_)
        refine h_cI h (fun v12 M11 e h => ?_)
        refine EV_call [.ref l1] [] mx_230 li_230_170 rfl rfl si_22_18 rfl (by decide) (by decide) (by omega) ma_72 rfl (Nat.le_of_ble_eq_true rfl) rfl rfl (Nat.le_of_ble_eq_true rfl) (rc_1 mt_at_72 rfl rfl (by decide) hc) (e_x_readPipeline (by omega) l1 M _ e) ?_
        show EV d 230 173 [some (.retAddr 0), some (.ref l1), some (.ref l2), some (.int l3)] [.int v12] M11 _
        refine EV_stq mx_230 (pc' := 174) (L' := [some (.retAddr 0), some (.ref l1), some (.ref l2), some (.int l3)]) (st' := [.ref l2, .int v12]) bo_230_173_5c8c37 rfl ?_
        refine h_ck h (fun hc h => ?_)
        refine h_cI h (fun v14 M13 e h => ?_)
        refine EV_call [.ref l2] [.int v12] mx_230 li_230_174 rfl rfl si_22_22 rfl (by decide) (by decide) (by omega) ma_81 rfl (Nat.le_of_ble_eq_true rfl) rfl rfl (Nat.le_of_ble_eq_true rfl) (rc_1 mt_at_81 rfl rfl (by decide) hc) (e_m_readPipeline (by omega) l2 M11 _ e) ?_
        show EV d 230 177 [some (.retAddr 0), some (.ref l1), some (.ref l2), some (.int l3)] [.int v14, .int v12] M13 _
        refine h_eq h (fun h hc => ?_) (fun h hc => ?_)
        · refine r_icT mx_230 li_230_177 (by decide) rfl hc ?_
          exact e_w_law_772 hd _ ih l1 l2 l3 M13 r h
        · refine r_icF mx_230 li_230_177 (by decide) hc ?_
          refine EV_stq mx_230 (pc' := 181) (L' := [some (.retAddr 0), some (.ref l1), some (.ref l2), some (.int l3)]) (st' := [.int (0 : Int32)]) bo_230_180_b82c80 rfl ?_
          obtain rfl := Option.some.inj h
          exact r_ret mx_230 li_230_181 rfl (ro_nar (t := .boolean) (by decide) rfl)
      refine h_sw h (fun hh e2 => ?_) (fun h e2 => ?_)
      · clear h
        subst e2
        have h := hh
        clear hh
        refine r_tsI (off := 150) mx_230 li_230_32 (by decide +kernel) (by decide +kernel) (by decide) rfl ?_
        refine EV_stq mx_230 (pc' := 187) (L' := [some (.retAddr 0), some (.ref l1), some (.ref l2), some (.int l3)]) (st' := [.int (l3 + (1 : Int32)), .retAddr 0, .ref l1]) bo_230_182_fa9895 rfl ?_
        refine r_aX mx_230 li_230_187 h (fun v15 h => ?_)
        refine EV_stq mx_230 (pc' := 192) (L' := [some (.retAddr 0), some (.ref l1), some (.ref l2), some (.int l3)]) (st' := [.int (l3 + (2 : Int32)), .retAddr 0, .int v15, .ref l1]) bo_230_188_0ffce8 rfl ?_
        refine r_aX mx_230 li_230_192 h (fun v16 h => ?_)
        refine EV_stq mx_230 (pc' := 197) (L' := [some (.retAddr 0), some (.ref l1), some (.ref l2), some (.int l3)]) (st' := [.int (l3 + (3 : Int32)), .retAddr 0, .int v16, .int v15, .ref l1]) bo_230_193_4862d2 rfl ?_
        refine r_aX mx_230 li_230_197 h (fun v17 h => ?_)
        refine EV_stq mx_230 (pc' := 202) (L' := [some (.retAddr 0), some (.ref l1), some (.ref l2), some (.int l3)]) (st' := [.int (l3 + (4 : Int32)), .retAddr 0, .int v17, .int v16, .int v15, .ref l1]) bo_230_198_f47352 rfl ?_
        refine r_aX mx_230 li_230_202 h (fun v18 h => ?_)
        refine h_ck h (fun hc h => ?_)
        refine h_cI h (fun v20 M19 e h => ?_)
        refine EV_call [.ref l1, .int v15, .int v16, .int v17, .int v18] [] mx_230 li_230_203 rfl rfl si_22_23 rfl (by decide) (by decide) (by omega) ma_84 rfl (Nat.le_of_ble_eq_true rfl) rfl rfl (Nat.le_of_ble_eq_true rfl) (rc_1 mt_at_84 rfl rfl (by decide) hc) (e_x_configure (by omega) l1 v15 v16 v17 v18 M _ e) ?_
        show EV d 230 206 [some (.retAddr 0), some (.ref l1), some (.ref l2), some (.int l3)] [.int v20] M19 _
        refine EV_stq mx_230 (pc' := 211) (L' := [some (.retAddr 0), some (.ref l1), some (.ref l2), some (.int l3)]) (st' := [.int (l3 + (1 : Int32)), .retAddr 0, .ref l2, .int v20]) bo_230_206_dc5120 rfl ?_
        refine r_aX mx_230 li_230_211 h (fun v21 h => ?_)
        refine EV_stq mx_230 (pc' := 216) (L' := [some (.retAddr 0), some (.ref l1), some (.ref l2), some (.int l3)]) (st' := [.int (l3 + (2 : Int32)), .retAddr 0, .int v21, .ref l2, .int v20]) bo_230_212_6718ed rfl ?_
        refine r_aX mx_230 li_230_216 h (fun v22 h => ?_)
        refine EV_stq mx_230 (pc' := 221) (L' := [some (.retAddr 0), some (.ref l1), some (.ref l2), some (.int l3)]) (st' := [.int (l3 + (3 : Int32)), .retAddr 0, .int v22, .int v21, .ref l2, .int v20]) bo_230_217_4552b3 rfl ?_
        refine r_aX mx_230 li_230_221 h (fun v23 h => ?_)
        refine EV_stq mx_230 (pc' := 226) (L' := [some (.retAddr 0), some (.ref l1), some (.ref l2), some (.int l3)]) (st' := [.int (l3 + (4 : Int32)), .retAddr 0, .int v23, .int v22, .int v21, .ref l2, .int v20]) bo_230_222_3fa296 rfl ?_
        refine r_aX mx_230 li_230_226 h (fun v24 h => ?_)
        refine h_ck h (fun hc h => ?_)
        refine h_cI h (fun v26 M25 e h => ?_)
        refine EV_call [.ref l2, .int v21, .int v22, .int v23, .int v24] [.int v20] mx_230 li_230_227 rfl rfl si_22_27 rfl (by decide) (by decide) (by omega) ma_85 rfl (Nat.le_of_ble_eq_true rfl) rfl rfl (Nat.le_of_ble_eq_true rfl) (rc_1 mt_at_85 rfl rfl (by decide) hc) (e_m_configure (by omega) l2 v21 v22 v23 v24 M19 _ e) ?_
        show EV d 230 230 [some (.retAddr 0), some (.ref l1), some (.ref l2), some (.int l3)] [.int v26, .int v20] M25 _
        refine h_eq h (fun h hc => ?_) (fun h hc => ?_)
        · refine r_icT mx_230 li_230_230 (by decide) rfl hc ?_
          exact e_w_law_772 hd _ ih l1 l2 l3 M25 r h
        · refine r_icF mx_230 li_230_230 (by decide) hc ?_
          refine EV_stq mx_230 (pc' := 234) (L' := [some (.retAddr 0), some (.ref l1), some (.ref l2), some (.int l3)]) (st' := [.int (0 : Int32)]) bo_230_233_6531a0 rfl ?_
          obtain rfl := Option.some.inj h
          exact r_ret mx_230 li_230_234 rfl (ro_nar (t := .boolean) (by decide) rfl)
      refine h_sw h (fun hh e3 => ?_) (fun h e3 => ?_)
      · clear h
        subst e3
        have h := hh
        clear hh
        refine r_tsI (off := 203) mx_230 li_230_32 (by decide +kernel) (by decide +kernel) (by decide) rfl ?_
        refine EV_stq mx_230 (pc' := 240) (L' := [some (.retAddr 0), some (.ref l1), some (.ref l2), some (.int l3)]) (st' := [.int (l3 + (1 : Int32)), .retAddr 0, .ref l1]) bo_230_235_66fbb1 rfl ?_
        refine r_aX mx_230 li_230_240 h (fun v27 h => ?_)
        refine EV_stq mx_230 (pc' := 245) (L' := [some (.retAddr 0), some (.ref l1), some (.ref l2), some (.int l3)]) (st' := [.int (l3 + (2 : Int32)), .retAddr 0, .int v27, .ref l1]) bo_230_241_a77981 rfl ?_
        refine r_aX mx_230 li_230_245 h (fun v28 h => ?_)
        refine h_ck h (fun hc h => ?_)
        refine h_cI h (fun v30 M29 e h => ?_)
        refine EV_call [.ref l1, .int v27, .int v28] [] mx_230 li_230_246 rfl rfl si_22_28 rfl (by decide) (by decide) (by omega) ma_87 rfl (Nat.le_of_ble_eq_true rfl) rfl rfl (Nat.le_of_ble_eq_true rfl) (rc_1 mt_at_87 rfl rfl (by decide) hc) (e_x_push (by omega) l1 v27 v28 M _ e) ?_
        show EV d 230 249 [some (.retAddr 0), some (.ref l1), some (.ref l2), some (.int l3)] [.int v30] M29 _
        refine EV_stq mx_230 (pc' := 254) (L' := [some (.retAddr 0), some (.ref l1), some (.ref l2), some (.int l3)]) (st' := [.int (l3 + (1 : Int32)), .retAddr 0, .ref l2, .int v30]) bo_230_249_2ff7c3 rfl ?_
        refine r_aX mx_230 li_230_254 h (fun v31 h => ?_)
        refine EV_stq mx_230 (pc' := 259) (L' := [some (.retAddr 0), some (.ref l1), some (.ref l2), some (.int l3)]) (st' := [.int (l3 + (2 : Int32)), .retAddr 0, .int v31, .ref l2, .int v30]) bo_230_255_57825d rfl ?_
        refine r_aX mx_230 li_230_259 h (fun v32 h => ?_)
        refine h_ck h (fun hc h => ?_)
        refine h_cI h (fun v34 M33 e h => ?_)
        refine EV_call [.ref l2, .int v31, .int v32] [.int v30] mx_230 li_230_260 rfl rfl si_22_31 rfl (by decide) (by decide) (by omega) ma_88 rfl (Nat.le_of_ble_eq_true rfl) rfl rfl (Nat.le_of_ble_eq_true rfl) (rc_1 mt_at_88 rfl rfl (by decide) hc) (e_m_push (by omega) l2 v31 v32 M29 _ e) ?_
        show EV d 230 263 [some (.retAddr 0), some (.ref l1), some (.ref l2), some (.int l3)] [.int v34, .int v30] M33 _
        refine h_eq h (fun h hc => ?_) (fun h hc => ?_)
        · refine r_icT mx_230 li_230_263 (by decide) rfl hc ?_
          exact e_w_law_772 hd _ ih l1 l2 l3 M33 r h
        · refine r_icF mx_230 li_230_263 (by decide) hc ?_
          refine EV_stq mx_230 (pc' := 267) (L' := [some (.retAddr 0), some (.ref l1), some (.ref l2), some (.int l3)]) (st' := [.int (0 : Int32)]) bo_230_266_437b86 rfl ?_
          obtain rfl := Option.some.inj h
          exact r_ret mx_230 li_230_267 rfl (ro_nar (t := .boolean) (by decide) rfl)
      refine h_sw h (fun hh e4 => ?_) (fun h e4 => ?_)
      · clear h
        subst e4
        have h := hh
        clear hh
        refine r_tsI (off := 236) mx_230 li_230_32 (by decide +kernel) (by decide +kernel) (by decide) rfl ?_
        refine EV_stq mx_230 (pc' := 273) (L' := [some (.retAddr 0), some (.ref l1), some (.ref l2), some (.int l3)]) (st' := [.int (l3 + (1 : Int32)), .retAddr 0, .ref l1]) bo_230_268_3ab40a rfl ?_
        refine r_aX mx_230 li_230_273 h (fun v35 h => ?_)
        refine h_ck h (fun hc h => ?_)
        refine h_cI h (fun v37 M36 e h => ?_)
        refine EV_call [.ref l1, .int v35] [] mx_230 li_230_274 rfl rfl si_22_32 rfl (by decide) (by decide) (by omega) ma_137 rfl (Nat.le_of_ble_eq_true rfl) rfl rfl (Nat.le_of_ble_eq_true rfl) (rc_1 mt_at_137 rfl rfl (by decide) hc) (e_x_tick (by omega) l1 v35 M _ e) ?_
        show EV d 230 277 [some (.retAddr 0), some (.ref l1), some (.ref l2), some (.int l3)] [.int v37] M36 _
        refine EV_stq mx_230 (pc' := 282) (L' := [some (.retAddr 0), some (.ref l1), some (.ref l2), some (.int l3)]) (st' := [.int (l3 + (1 : Int32)), .retAddr 0, .ref l2, .int v37]) bo_230_277_e6bf6a rfl ?_
        refine r_aX mx_230 li_230_282 h (fun v38 h => ?_)
        refine h_ck h (fun hc h => ?_)
        refine h_cI h (fun v40 M39 e h => ?_)
        refine EV_call [.ref l2, .int v38] [.int v37] mx_230 li_230_283 rfl rfl si_22_36 rfl (by decide) (by decide) (by omega) ma_165 rfl (Nat.le_of_ble_eq_true rfl) rfl rfl (Nat.le_of_ble_eq_true rfl) (rc_1 mt_at_165 rfl rfl (by decide) hc) (e_m_tick (by omega) l2 v38 M36 _ e) ?_
        show EV d 230 286 [some (.retAddr 0), some (.ref l1), some (.ref l2), some (.int l3)] [.int v40, .int v37] M39 _
        refine h_eq h (fun h hc => ?_) (fun h hc => ?_)
        · refine r_icT mx_230 li_230_286 (by decide) rfl hc ?_
          exact e_w_law_772 hd _ ih l1 l2 l3 M39 r h
        · refine r_icF mx_230 li_230_286 (by decide) hc ?_
          refine EV_stq mx_230 (pc' := 290) (L' := [some (.retAddr 0), some (.ref l1), some (.ref l2), some (.int l3)]) (st' := [.int (0 : Int32)]) bo_230_289_7fbe25 rfl ?_
          obtain rfl := Option.some.inj h
          exact r_ret mx_230 li_230_290 rfl (ro_nar (t := .boolean) (by decide) rfl)
      refine h_sw h (fun hh e5 => ?_) (fun h e5 => ?_)
      · clear h
        subst e5
        have h := hh
        clear hh
        refine r_tsI (off := 259) mx_230 li_230_32 (by decide +kernel) (by decide +kernel) (by decide) rfl ?_
        refine EV_stq mx_230 (pc' := 292) (L' := [some (.retAddr 0), some (.ref l1), some (.ref l2), some (.int l3)]) (st' := [.ref l1]) bo_230_291_1967b1 rfl ?_
        refine h_ck h (fun hc h => ?_)
        refine h_cI h (fun v42 M41 e h => ?_)
        refine EV_call [.ref l1] [] mx_230 li_230_292 rfl rfl si_22_37 rfl (by decide) (by decide) (by omega) ma_166 rfl (Nat.le_of_ble_eq_true rfl) rfl rfl (Nat.le_of_ble_eq_true rfl) (rc_1 mt_at_166 rfl rfl (by decide) hc) (e_x_isQuiet (by omega) l1 M _ e) ?_
        show EV d 230 295 [some (.retAddr 0), some (.ref l1), some (.ref l2), some (.int l3)] [.int v42] M41 _
        refine EV_stq mx_230 (pc' := 296) (L' := [some (.retAddr 0), some (.ref l1), some (.ref l2), some (.int l3)]) (st' := [.ref l2, .int v42]) bo_230_295_4a8575 rfl ?_
        refine h_ck h (fun hc h => ?_)
        refine h_cI h (fun v44 M43 e h => ?_)
        refine EV_call [.ref l2] [.int v42] mx_230 li_230_296 rfl rfl si_22_40 rfl (by decide) (by decide) (by omega) ma_167 rfl (Nat.le_of_ble_eq_true rfl) rfl rfl (Nat.le_of_ble_eq_true rfl) (rc_1 mt_at_167 rfl rfl (by decide) hc) (e_m_isQuiet (by omega) l2 M41 _ e) ?_
        show EV d 230 299 [some (.retAddr 0), some (.ref l1), some (.ref l2), some (.int l3)] [.int v44, .int v42] M43 _
        refine h_eq h (fun h hc => ?_) (fun h hc => ?_)
        · refine r_icT mx_230 li_230_299 (by decide) rfl hc ?_
          exact e_w_law_772 hd _ ih l1 l2 l3 M43 r h
        · refine r_icF mx_230 li_230_299 (by decide) hc ?_
          refine EV_stq mx_230 (pc' := 303) (L' := [some (.retAddr 0), some (.ref l1), some (.ref l2), some (.int l3)]) (st' := [.int (0 : Int32)]) bo_230_302_cedb92 rfl ?_
          obtain rfl := Option.some.inj h
          exact r_ret mx_230 li_230_303 rfl (ro_nar (t := .boolean) (by decide) rfl)
      refine h_sw h (fun hh e6 => ?_) (fun h e6 => ?_)
      · clear h
        subst e6
        have h := hh
        clear hh
        refine r_tsI (off := 272) mx_230 li_230_32 (by decide +kernel) (by decide +kernel) (by decide) rfl ?_
        refine EV_stq mx_230 (pc' := 305) (L' := [some (.retAddr 0), some (.ref l1), some (.ref l2), some (.int l3)]) (st' := [.ref l1]) bo_230_304_0eca86 rfl ?_
        refine h_ck h (fun hc h => ?_)
        refine h_cI h (fun v46 M45 e h => ?_)
        refine EV_call [.ref l1] [] mx_230 li_230_305 rfl rfl si_22_41 rfl (by decide) (by decide) (by omega) ma_169 rfl (Nat.le_of_ble_eq_true rfl) rfl rfl (Nat.le_of_ble_eq_true rfl) (rc_1 mt_at_169 rfl rfl (by decide) hc) (e_x_checkpoint (by omega) l1 M _ e) ?_
        show EV d 230 308 [some (.retAddr 0), some (.ref l1), some (.ref l2), some (.int l3)] [.int v46] M45 _
        refine EV_stq mx_230 (pc' := 309) (L' := [some (.retAddr 0), some (.ref l1), some (.ref l2), some (.int l3)]) (st' := [.ref l2, .int v46]) bo_230_308_1ab829 rfl ?_
        refine h_ck h (fun hc h => ?_)
        refine h_cI h (fun v48 M47 e h => ?_)
        refine EV_call [.ref l2] [.int v46] mx_230 li_230_309 rfl rfl si_22_44 rfl (by decide) (by decide) (by omega) ma_170 rfl (Nat.le_of_ble_eq_true rfl) rfl rfl (Nat.le_of_ble_eq_true rfl) (rc_1 mt_at_170 rfl rfl (by decide) hc) (e_m_checkpoint (by omega) l2 M45 _ e) ?_
        show EV d 230 312 [some (.retAddr 0), some (.ref l1), some (.ref l2), some (.int l3)] [.int v48, .int v46] M47 _
        refine h_eq h (fun h hc => ?_) (fun h hc => ?_)
        · refine r_icT mx_230 li_230_312 (by decide) rfl hc ?_
          exact e_w_law_772 hd _ ih l1 l2 l3 M47 r h
        · refine r_icF mx_230 li_230_312 (by decide) hc ?_
          refine EV_stq mx_230 (pc' := 316) (L' := [some (.retAddr 0), some (.ref l1), some (.ref l2), some (.int l3)]) (st' := [.int (0 : Int32)]) bo_230_315_090f0b rfl ?_
          obtain rfl := Option.some.inj h
          exact r_ret mx_230 li_230_316 rfl (ro_nar (t := .boolean) (by decide) rfl)
      refine h_sw h (fun hh e7 => ?_) (fun h e7 => ?_)
      · clear h
        subst e7
        have h := hh
        clear hh
        refine r_tsI (off := 285) mx_230 li_230_32 (by decide +kernel) (by decide +kernel) (by decide) rfl ?_
        refine EV_stq mx_230 (pc' := 318) (L' := [some (.retAddr 0), some (.ref l1), some (.ref l2), some (.int l3)]) (st' := [.ref l1]) bo_230_317_990529 rfl ?_
        refine h_ck h (fun hc h => ?_)
        refine h_cI h (fun v50 M49 e h => ?_)
        refine EV_call [.ref l1] [] mx_230 li_230_318 rfl rfl si_22_45 rfl (by decide) (by decide) (by omega) ma_172 rfl (Nat.le_of_ble_eq_true rfl) rfl rfl (Nat.le_of_ble_eq_true rfl) (rc_1 mt_at_172 rfl rfl (by decide) hc) (e_x_fail (by omega) l1 M _ e) ?_
        show EV d 230 321 [some (.retAddr 0), some (.ref l1), some (.ref l2), some (.int l3)] [.int v50] M49 _
        refine EV_stq mx_230 (pc' := 322) (L' := [some (.retAddr 0), some (.ref l1), some (.ref l2), some (.int l3)]) (st' := [.ref l2, .int v50]) bo_230_321_ab7819 rfl ?_
        refine h_ck h (fun hc h => ?_)
        refine h_cI h (fun v52 M51 e h => ?_)
        refine EV_call [.ref l2] [.int v50] mx_230 li_230_322 rfl rfl si_22_48 rfl (by decide) (by decide) (by omega) ma_173 rfl (Nat.le_of_ble_eq_true rfl) rfl rfl (Nat.le_of_ble_eq_true rfl) (rc_1 mt_at_173 rfl rfl (by decide) hc) (e_m_fail (by omega) l2 M49 _ e) ?_
        show EV d 230 325 [some (.retAddr 0), some (.ref l1), some (.ref l2), some (.int l3)] [.int v52, .int v50] M51 _
        refine h_eq h (fun h hc => ?_) (fun h hc => ?_)
        · refine r_icT mx_230 li_230_325 (by decide) rfl hc ?_
          exact e_w_law_772 hd _ ih l1 l2 l3 M51 r h
        · refine r_icF mx_230 li_230_325 (by decide) hc ?_
          refine EV_stq mx_230 (pc' := 329) (L' := [some (.retAddr 0), some (.ref l1), some (.ref l2), some (.int l3)]) (st' := [.int (0 : Int32)]) bo_230_328_bb4d96 rfl ?_
          obtain rfl := Option.some.inj h
          exact r_ret mx_230 li_230_329 rfl (ro_nar (t := .boolean) (by decide) rfl)
      refine h_sw h (fun hh e8 => ?_) (fun h e8 => ?_)
      · clear h
        subst e8
        have h := hh
        clear hh
        refine r_tsI (off := 298) mx_230 li_230_32 (by decide +kernel) (by decide +kernel) (by decide) rfl ?_
        refine EV_stq mx_230 (pc' := 335) (L' := [some (.retAddr 0), some (.ref l1), some (.ref l2), some (.int l3)]) (st' := [.int (l3 + (1 : Int32)), .retAddr 0, .ref l1]) bo_230_330_1ec19d rfl ?_
        refine r_aX mx_230 li_230_335 h (fun v53 h => ?_)
        refine EV_stq mx_230 (pc' := 340) (L' := [some (.retAddr 0), some (.ref l1), some (.ref l2), some (.int l3)]) (st' := [.int (l3 + (2 : Int32)), .retAddr 0, .int v53, .ref l1]) bo_230_336_cfeb15 rfl ?_
        refine r_aX mx_230 li_230_340 h (fun v54 h => ?_)
        refine h_ck h (fun hc h => ?_)
        refine h_cI h (fun v56 M55 e h => ?_)
        refine EV_call [.ref l1, .int v53, .int v54] [] mx_230 li_230_341 rfl rfl si_22_49 rfl (by decide) (by decide) (by omega) ma_176 rfl (Nat.le_of_ble_eq_true rfl) rfl rfl (Nat.le_of_ble_eq_true rfl) (rc_1 mt_at_176 rfl rfl (by decide) hc) (e_x_rescale (by omega) l1 v53 v54 M _ e) ?_
        show EV d 230 344 [some (.retAddr 0), some (.ref l1), some (.ref l2), some (.int l3)] [.int v56] M55 _
        refine EV_stq mx_230 (pc' := 349) (L' := [some (.retAddr 0), some (.ref l1), some (.ref l2), some (.int l3)]) (st' := [.int (l3 + (1 : Int32)), .retAddr 0, .ref l2, .int v56]) bo_230_344_b296b8 rfl ?_
        refine r_aX mx_230 li_230_349 h (fun v57 h => ?_)
        refine EV_stq mx_230 (pc' := 354) (L' := [some (.retAddr 0), some (.ref l1), some (.ref l2), some (.int l3)]) (st' := [.int (l3 + (2 : Int32)), .retAddr 0, .int v57, .ref l2, .int v56]) bo_230_350_03b6a2 rfl ?_
        refine r_aX mx_230 li_230_354 h (fun v58 h => ?_)
        refine h_ck h (fun hc h => ?_)
        refine h_cI h (fun v60 M59 e h => ?_)
        refine EV_call [.ref l2, .int v57, .int v58] [.int v56] mx_230 li_230_355 rfl rfl si_22_52 rfl (by decide) (by decide) (by omega) ma_178 rfl (Nat.le_of_ble_eq_true rfl) rfl rfl (Nat.le_of_ble_eq_true rfl) (rc_1 mt_at_178 rfl rfl (by decide) hc) (e_m_rescale (by omega) l2 v57 v58 M55 _ e) ?_
        show EV d 230 358 [some (.retAddr 0), some (.ref l1), some (.ref l2), some (.int l3)] [.int v60, .int v56] M59 _
        refine h_eq h (fun h hc => ?_) (fun h hc => ?_)
        · refine r_icT mx_230 li_230_358 (by decide) rfl hc ?_
          exact e_w_law_772 hd _ ih l1 l2 l3 M59 r h
        · refine r_icF mx_230 li_230_358 (by decide) hc ?_
          refine EV_stq mx_230 (pc' := 362) (L' := [some (.retAddr 0), some (.ref l1), some (.ref l2), some (.int l3)]) (st' := [.int (0 : Int32)]) bo_230_361_f0d6a1 rfl ?_
          obtain rfl := Option.some.inj h
          exact r_ret mx_230 li_230_362 rfl (ro_nar (t := .boolean) (by decide) rfl)
      refine h_sw h (fun hh e9 => ?_) (fun h e9 => ?_)
      · clear h
        subst e9
        have h := hh
        clear hh
        refine r_tsI (off := 331) mx_230 li_230_32 (by decide +kernel) (by decide +kernel) (by decide) rfl ?_
        refine EV_stq mx_230 (pc' := 368) (L' := [some (.retAddr 0), some (.ref l1), some (.ref l2), some (.int l3)]) (st' := [.int (l3 + (1 : Int32)), .retAddr 0, .ref l1]) bo_230_363_dfda6c rfl ?_
        refine r_aX mx_230 li_230_368 h (fun v61 h => ?_)
        refine h_ck h (fun hc h => ?_)
        refine h_cI h (fun v63 M62 e h => ?_)
        refine EV_call [.ref l1, .int v61] [] mx_230 li_230_369 rfl rfl si_22_53 rfl (by decide) (by decide) (by omega) ma_181 rfl (Nat.le_of_ble_eq_true rfl) rfl rfl (Nat.le_of_ble_eq_true rfl) (rc_1 mt_at_181 rfl rfl (by decide) hc) (e_x_count (by omega) l1 v61 M _ e) ?_
        show EV d 230 372 [some (.retAddr 0), some (.ref l1), some (.ref l2), some (.int l3)] [.int v63] M62 _
        refine EV_stq mx_230 (pc' := 377) (L' := [some (.retAddr 0), some (.ref l1), some (.ref l2), some (.int l3)]) (st' := [.int (l3 + (1 : Int32)), .retAddr 0, .ref l2, .int v63]) bo_230_372_2610c7 rfl ?_
        refine r_aX mx_230 li_230_377 h (fun v64 h => ?_)
        refine h_ck h (fun hc h => ?_)
        refine h_cI h (fun v66 M65 e h => ?_)
        refine EV_call [.ref l2, .int v64] [.int v63] mx_230 li_230_378 rfl rfl si_22_56 rfl (by decide) (by decide) (by omega) ma_183 rfl (Nat.le_of_ble_eq_true rfl) rfl rfl (Nat.le_of_ble_eq_true rfl) (rc_1 mt_at_183 rfl rfl (by decide) hc) (e_m_count (by omega) l2 v64 M62 _ e) ?_
        show EV d 230 381 [some (.retAddr 0), some (.ref l1), some (.ref l2), some (.int l3)] [.int v66, .int v63] M65 _
        refine h_eq h (fun h hc => ?_) (fun h hc => ?_)
        · refine r_icT mx_230 li_230_381 (by decide) rfl hc ?_
          exact e_w_law_772 hd _ ih l1 l2 l3 M65 r h
        · refine r_icF mx_230 li_230_381 (by decide) hc ?_
          refine EV_stq mx_230 (pc' := 385) (L' := [some (.retAddr 0), some (.ref l1), some (.ref l2), some (.int l3)]) (st' := [.int (0 : Int32)]) bo_230_384_b3cd6f rfl ?_
          obtain rfl := Option.some.inj h
          exact r_ret mx_230 li_230_385 rfl (ro_nar (t := .boolean) (by decide) rfl)
      refine h_sw h (fun hh e10 => ?_) (fun h e10 => ?_)
      · clear h
        subst e10
        have h := hh
        clear hh
        refine r_tsI (off := 354) mx_230 li_230_32 (by decide +kernel) (by decide +kernel) (by decide) rfl ?_
        refine EV_stq mx_230 (pc' := 391) (L' := [some (.retAddr 0), some (.ref l1), some (.ref l2), some (.int l3)]) (st' := [.int (l3 + (1 : Int32)), .retAddr 0, .ref l1]) bo_230_386_db5634 rfl ?_
        refine r_aX mx_230 li_230_391 h (fun v67 h => ?_)
        refine EV_stq mx_230 (pc' := 396) (L' := [some (.retAddr 0), some (.ref l1), some (.ref l2), some (.int l3)]) (st' := [.int (l3 + (2 : Int32)), .retAddr 0, .int v67, .ref l1]) bo_230_392_ab5f74 rfl ?_
        refine r_aX mx_230 li_230_396 h (fun v68 h => ?_)
        refine h_ck h (fun hc h => ?_)
        refine h_cI h (fun v70 M69 e h => ?_)
        refine EV_call [.ref l1, .int v67, .int v68] [] mx_230 li_230_397 rfl rfl si_22_57 rfl (by decide) (by decide) (by omega) ma_184 rfl (Nat.le_of_ble_eq_true rfl) rfl rfl (Nat.le_of_ble_eq_true rfl) (rc_1 mt_at_184 rfl rfl (by decide) hc) (e_x_operator (by omega) l1 v67 v68 M _ e) ?_
        show EV d 230 400 [some (.retAddr 0), some (.ref l1), some (.ref l2), some (.int l3)] [.int v70] M69 _
        refine EV_stq mx_230 (pc' := 405) (L' := [some (.retAddr 0), some (.ref l1), some (.ref l2), some (.int l3)]) (st' := [.int (l3 + (1 : Int32)), .retAddr 0, .ref l2, .int v70]) bo_230_400_9954c4 rfl ?_
        refine r_aX mx_230 li_230_405 h (fun v71 h => ?_)
        refine EV_stq mx_230 (pc' := 410) (L' := [some (.retAddr 0), some (.ref l1), some (.ref l2), some (.int l3)]) (st' := [.int (l3 + (2 : Int32)), .retAddr 0, .int v71, .ref l2, .int v70]) bo_230_406_23cb1f rfl ?_
        refine r_aX mx_230 li_230_410 h (fun v72 h => ?_)
        refine h_ck h (fun hc h => ?_)
        refine h_cI h (fun v74 M73 e h => ?_)
        refine EV_call [.ref l2, .int v71, .int v72] [.int v70] mx_230 li_230_411 rfl rfl si_22_60 rfl (by decide) (by decide) (by omega) ma_185 rfl (Nat.le_of_ble_eq_true rfl) rfl rfl (Nat.le_of_ble_eq_true rfl) (rc_1 mt_at_185 rfl rfl (by decide) hc) (e_m_operator (by omega) l2 v71 v72 M69 _ e) ?_
        show EV d 230 414 [some (.retAddr 0), some (.ref l1), some (.ref l2), some (.int l3)] [.int v74, .int v70] M73 _
        refine h_eq h (fun h hc => ?_) (fun h hc => ?_)
        · refine r_icT mx_230 li_230_414 (by decide) rfl hc ?_
          exact e_w_law_772 hd _ ih l1 l2 l3 M73 r h
        · refine r_icF mx_230 li_230_414 (by decide) hc ?_
          refine EV_stq mx_230 (pc' := 418) (L' := [some (.retAddr 0), some (.ref l1), some (.ref l2), some (.int l3)]) (st' := [.int (0 : Int32)]) bo_230_417_c0f3b3 rfl ?_
          obtain rfl := Option.some.inj h
          exact r_ret mx_230 li_230_418 rfl (ro_nar (t := .boolean) (by decide) rfl)
      refine h_sw h (fun hh e11 => ?_) (fun h e11 => ?_)
      · clear h
        subst e11
        have h := hh
        clear hh
        refine r_tsI (off := 387) mx_230 li_230_32 (by decide +kernel) (by decide +kernel) (by decide) rfl ?_
        refine EV_stq mx_230 (pc' := 424) (L' := [some (.retAddr 0), some (.ref l1), some (.ref l2), some (.int l3)]) (st' := [.int (l3 + (1 : Int32)), .retAddr 0, .ref l1]) bo_230_419_767bf5 rfl ?_
        refine r_aX mx_230 li_230_424 h (fun v75 h => ?_)
        refine EV_stq mx_230 (pc' := 429) (L' := [some (.retAddr 0), some (.ref l1), some (.ref l2), some (.int l3)]) (st' := [.int (l3 + (2 : Int32)), .retAddr 0, .int v75, .ref l1]) bo_230_425_1ed74e rfl ?_
        refine r_aX mx_230 li_230_429 h (fun v76 h => ?_)
        refine EV_stq mx_230 (pc' := 434) (L' := [some (.retAddr 0), some (.ref l1), some (.ref l2), some (.int l3)]) (st' := [.int (l3 + (3 : Int32)), .retAddr 0, .int v76, .int v75, .ref l1]) bo_230_430_3a9428 rfl ?_
        refine r_aX mx_230 li_230_434 h (fun v77 h => ?_)
        refine h_ck h (fun hc h => ?_)
        refine h_cI h (fun v79 M78 e h => ?_)
        refine EV_call [.ref l1, .int v75, .int v76, .int v77] [] mx_230 li_230_435 rfl rfl si_22_61 rfl (by decide) (by decide) (by omega) ma_187 rfl (Nat.le_of_ble_eq_true rfl) rfl rfl (Nat.le_of_ble_eq_true rfl) (rc_1 mt_at_187 rfl rfl (by decide) hc) (e_x_instance (by omega) l1 v75 v76 v77 M _ e) ?_
        show EV d 230 438 [some (.retAddr 0), some (.ref l1), some (.ref l2), some (.int l3)] [.int v79] M78 _
        refine EV_stq mx_230 (pc' := 443) (L' := [some (.retAddr 0), some (.ref l1), some (.ref l2), some (.int l3)]) (st' := [.int (l3 + (1 : Int32)), .retAddr 0, .ref l2, .int v79]) bo_230_438_e56da2 rfl ?_
        refine r_aX mx_230 li_230_443 h (fun v80 h => ?_)
        refine EV_stq mx_230 (pc' := 448) (L' := [some (.retAddr 0), some (.ref l1), some (.ref l2), some (.int l3)]) (st' := [.int (l3 + (2 : Int32)), .retAddr 0, .int v80, .ref l2, .int v79]) bo_230_444_7f88b7 rfl ?_
        refine r_aX mx_230 li_230_448 h (fun v81 h => ?_)
        refine EV_stq mx_230 (pc' := 453) (L' := [some (.retAddr 0), some (.ref l1), some (.ref l2), some (.int l3)]) (st' := [.int (l3 + (3 : Int32)), .retAddr 0, .int v81, .int v80, .ref l2, .int v79]) bo_230_449_5a6ac3 rfl ?_
        refine r_aX mx_230 li_230_453 h (fun v82 h => ?_)
        refine h_ck h (fun hc h => ?_)
        refine h_cI h (fun v84 M83 e h => ?_)
        refine EV_call [.ref l2, .int v80, .int v81, .int v82] [.int v79] mx_230 li_230_454 rfl rfl si_22_65 rfl (by decide) (by decide) (by omega) ma_189 rfl (Nat.le_of_ble_eq_true rfl) rfl rfl (Nat.le_of_ble_eq_true rfl) (rc_1 mt_at_189 rfl rfl (by decide) hc) (e_m_instance (by omega) l2 v80 v81 v82 M78 _ e) ?_
        show EV d 230 457 [some (.retAddr 0), some (.ref l1), some (.ref l2), some (.int l3)] [.int v84, .int v79] M83 _
        refine h_eq h (fun h hc => ?_) (fun h hc => ?_)
        · refine r_icT mx_230 li_230_457 (by decide) rfl hc ?_
          exact e_w_law_772 hd _ ih l1 l2 l3 M83 r h
        · refine r_icF mx_230 li_230_457 (by decide) hc ?_
          refine EV_stq mx_230 (pc' := 461) (L' := [some (.retAddr 0), some (.ref l1), some (.ref l2), some (.int l3)]) (st' := [.int (0 : Int32)]) bo_230_460_12b7d3 rfl ?_
          obtain rfl := Option.some.inj h
          exact r_ret mx_230 li_230_461 rfl (ro_nar (t := .boolean) (by decide) rfl)
      refine h_sw h (fun hh e12 => ?_) (fun h e12 => ?_)
      · clear h
        subst e12
        have h := hh
        clear hh
        refine r_tsI (off := 430) mx_230 li_230_32 (by decide +kernel) (by decide +kernel) (by decide) rfl ?_
        refine EV_stq mx_230 (pc' := 467) (L' := [some (.retAddr 0), some (.ref l1), some (.ref l2), some (.int l3)]) (st' := [.int (l3 + (1 : Int32)), .retAddr 0, .ref l1]) bo_230_462_c8c6fd rfl ?_
        refine r_aX mx_230 li_230_467 h (fun v85 h => ?_)
        refine EV_stq mx_230 (pc' := 472) (L' := [some (.retAddr 0), some (.ref l1), some (.ref l2), some (.int l3)]) (st' := [.int (l3 + (2 : Int32)), .retAddr 0, .int v85, .ref l1]) bo_230_468_4700ce rfl ?_
        refine r_aX mx_230 li_230_472 h (fun v86 h => ?_)
        refine EV_stq mx_230 (pc' := 477) (L' := [some (.retAddr 0), some (.ref l1), some (.ref l2), some (.int l3)]) (st' := [.int (l3 + (3 : Int32)), .retAddr 0, .int v86, .int v85, .ref l1]) bo_230_473_384077 rfl ?_
        refine r_aX mx_230 li_230_477 h (fun v87 h => ?_)
        refine EV_stq mx_230 (pc' := 482) (L' := [some (.retAddr 0), some (.ref l1), some (.ref l2), some (.int l3)]) (st' := [.int (l3 + (4 : Int32)), .retAddr 0, .int v87, .int v86, .int v85, .ref l1]) bo_230_478_2f27e5 rfl ?_
        refine r_aX mx_230 li_230_482 h (fun v88 h => ?_)
        refine h_ck h (fun hc h => ?_)
        refine h_cI h (fun v90 M89 e h => ?_)
        refine EV_call [.ref l1, .int v85, .int v86, .int v87, .int v88] [] mx_230 li_230_483 rfl rfl si_22_66 rfl (by decide) (by decide) (by omega) ma_190 rfl (Nat.le_of_ble_eq_true rfl) rfl rfl (Nat.le_of_ble_eq_true rfl) (rc_1 mt_at_190 rfl rfl (by decide) hc) (e_x_channel (by omega) l1 v85 v86 v87 v88 M _ e) ?_
        show EV d 230 486 [some (.retAddr 0), some (.ref l1), some (.ref l2), some (.int l3)] [.int v90] M89 _
        refine EV_stq mx_230 (pc' := 491) (L' := [some (.retAddr 0), some (.ref l1), some (.ref l2), some (.int l3)]) (st' := [.int (l3 + (1 : Int32)), .retAddr 0, .ref l2, .int v90]) bo_230_486_a9adfe rfl ?_
        refine r_aX mx_230 li_230_491 h (fun v91 h => ?_)
        refine EV_stq mx_230 (pc' := 496) (L' := [some (.retAddr 0), some (.ref l1), some (.ref l2), some (.int l3)]) (st' := [.int (l3 + (2 : Int32)), .retAddr 0, .int v91, .ref l2, .int v90]) bo_230_492_5ada95 rfl ?_
        refine r_aX mx_230 li_230_496 h (fun v92 h => ?_)
        refine EV_stq mx_230 (pc' := 501) (L' := [some (.retAddr 0), some (.ref l1), some (.ref l2), some (.int l3)]) (st' := [.int (l3 + (3 : Int32)), .retAddr 0, .int v92, .int v91, .ref l2, .int v90]) bo_230_497_ad5daa rfl ?_
        refine r_aX mx_230 li_230_501 h (fun v93 h => ?_)
        refine EV_stq mx_230 (pc' := 506) (L' := [some (.retAddr 0), some (.ref l1), some (.ref l2), some (.int l3)]) (st' := [.int (l3 + (4 : Int32)), .retAddr 0, .int v93, .int v92, .int v91, .ref l2, .int v90]) bo_230_502_3d9013 rfl ?_
        refine r_aX mx_230 li_230_506 h (fun v94 h => ?_)
        refine h_ck h (fun hc h => ?_)
        refine h_cI h (fun v96 M95 e h => ?_)
        refine EV_call [.ref l2, .int v91, .int v92, .int v93, .int v94] [.int v90] mx_230 li_230_507 rfl rfl si_22_69 rfl (by decide) (by decide) (by omega) ma_191 rfl (Nat.le_of_ble_eq_true rfl) rfl rfl (Nat.le_of_ble_eq_true rfl) (rc_1 mt_at_191 rfl rfl (by decide) hc) (e_m_channel (by omega) l2 v91 v92 v93 v94 M89 _ e) ?_
        show EV d 230 510 [some (.retAddr 0), some (.ref l1), some (.ref l2), some (.int l3)] [.int v96, .int v90] M95 _
        refine h_eq h (fun h hc => ?_) (fun h hc => ?_)
        · refine r_icT mx_230 li_230_510 (by decide) rfl hc ?_
          exact e_w_law_772 hd _ ih l1 l2 l3 M95 r h
        · refine r_icF mx_230 li_230_510 (by decide) hc ?_
          refine EV_stq mx_230 (pc' := 514) (L' := [some (.retAddr 0), some (.ref l1), some (.ref l2), some (.int l3)]) (st' := [.int (0 : Int32)]) bo_230_513_47cbd1 rfl ?_
          obtain rfl := Option.some.inj h
          exact r_ret mx_230 li_230_514 rfl (ro_nar (t := .boolean) (by decide) rfl)
      refine h_sw h (fun hh e13 => ?_) (fun h e13 => ?_)
      · clear h
        subst e13
        have h := hh
        clear hh
        refine r_tsI (off := 483) mx_230 li_230_32 (by decide +kernel) (by decide +kernel) (by decide) rfl ?_
        refine EV_stq mx_230 (pc' := 520) (L' := [some (.retAddr 0), some (.ref l1), some (.ref l2), some (.int l3)]) (st' := [.int (l3 + (1 : Int32)), .retAddr 0, .ref l1]) bo_230_515_a69e79 rfl ?_
        refine r_aX mx_230 li_230_520 h (fun v97 h => ?_)
        refine EV_stq mx_230 (pc' := 525) (L' := [some (.retAddr 0), some (.ref l1), some (.ref l2), some (.int l3)]) (st' := [.int (l3 + (2 : Int32)), .retAddr 0, .int v97, .ref l1]) bo_230_521_b6d667 rfl ?_
        refine r_aX mx_230 li_230_525 h (fun v98 h => ?_)
        refine EV_stq mx_230 (pc' := 530) (L' := [some (.retAddr 0), some (.ref l1), some (.ref l2), some (.int l3)]) (st' := [.int (l3 + (3 : Int32)), .retAddr 0, .int v98, .int v97, .ref l1]) bo_230_526_c00263 rfl ?_
        refine r_aX mx_230 li_230_530 h (fun v99 h => ?_)
        refine h_ck h (fun hc h => ?_)
        refine h_cI h (fun v101 M100 e h => ?_)
        refine EV_call [.ref l1, .int v97, .int v98, .int v99] [] mx_230 li_230_531 rfl rfl si_22_70 rfl (by decide) (by decide) (by omega) ma_193 rfl (Nat.le_of_ble_eq_true rfl) rfl rfl (Nat.le_of_ble_eq_true rfl) (rc_1 mt_at_193 rfl rfl (by decide) hc) (e_x_state (by omega) l1 v97 v98 v99 M _ e) ?_
        show EV d 230 534 [some (.retAddr 0), some (.ref l1), some (.ref l2), some (.int l3)] [.int v101] M100 _
        refine EV_stq mx_230 (pc' := 539) (L' := [some (.retAddr 0), some (.ref l1), some (.ref l2), some (.int l3)]) (st' := [.int (l3 + (1 : Int32)), .retAddr 0, .ref l2, .int v101]) bo_230_534_e9b8cc rfl ?_
        refine r_aX mx_230 li_230_539 h (fun v102 h => ?_)
        refine EV_stq mx_230 (pc' := 544) (L' := [some (.retAddr 0), some (.ref l1), some (.ref l2), some (.int l3)]) (st' := [.int (l3 + (2 : Int32)), .retAddr 0, .int v102, .ref l2, .int v101]) bo_230_540_fd3d1e rfl ?_
        refine r_aX mx_230 li_230_544 h (fun v103 h => ?_)
        refine EV_stq mx_230 (pc' := 549) (L' := [some (.retAddr 0), some (.ref l1), some (.ref l2), some (.int l3)]) (st' := [.int (l3 + (3 : Int32)), .retAddr 0, .int v103, .int v102, .ref l2, .int v101]) bo_230_545_59a8cf rfl ?_
        refine r_aX mx_230 li_230_549 h (fun v104 h => ?_)
        refine h_ck h (fun hc h => ?_)
        refine h_cI h (fun v106 M105 e h => ?_)
        refine EV_call [.ref l2, .int v102, .int v103, .int v104] [.int v101] mx_230 li_230_550 rfl rfl si_22_73 rfl (by decide) (by decide) (by omega) ma_195 rfl (Nat.le_of_ble_eq_true rfl) rfl rfl (Nat.le_of_ble_eq_true rfl) (rc_1 mt_at_195 rfl rfl (by decide) hc) (e_m_state (by omega) l2 v102 v103 v104 M100 _ e) ?_
        show EV d 230 553 [some (.retAddr 0), some (.ref l1), some (.ref l2), some (.int l3)] [.int v106, .int v101] M105 _
        refine h_eq h (fun h hc => ?_) (fun h hc => ?_)
        · refine r_icT mx_230 li_230_553 (by decide) rfl hc ?_
          exact e_w_law_772 hd _ ih l1 l2 l3 M105 r h
        · refine r_icF mx_230 li_230_553 (by decide) hc ?_
          refine EV_stq mx_230 (pc' := 557) (L' := [some (.retAddr 0), some (.ref l1), some (.ref l2), some (.int l3)]) (st' := [.int (0 : Int32)]) bo_230_556_f647ed rfl ?_
          obtain rfl := Option.some.inj h
          exact r_ret mx_230 li_230_557 rfl (ro_nar (t := .boolean) (by decide) rfl)
      refine h_sw h (fun hh e14 => ?_) (fun h e14 => ?_)
      · clear h
        subst e14
        have h := hh
        clear hh
        refine r_tsI (off := 526) mx_230 li_230_32 (by decide +kernel) (by decide +kernel) (by decide) rfl ?_
        refine EV_stq mx_230 (pc' := 563) (L' := [some (.retAddr 0), some (.ref l1), some (.ref l2), some (.int l3)]) (st' := [.int (l3 + (1 : Int32)), .retAddr 0, .ref l1]) bo_230_558_fc56df rfl ?_
        refine r_aX mx_230 li_230_563 h (fun v107 h => ?_)
        refine EV_stq mx_230 (pc' := 568) (L' := [some (.retAddr 0), some (.ref l1), some (.ref l2), some (.int l3)]) (st' := [.int (l3 + (2 : Int32)), .retAddr 0, .int v107, .ref l1]) bo_230_564_39727e rfl ?_
        refine r_aX mx_230 li_230_568 h (fun v108 h => ?_)
        refine EV_stq mx_230 (pc' := 573) (L' := [some (.retAddr 0), some (.ref l1), some (.ref l2), some (.int l3)]) (st' := [.int (l3 + (3 : Int32)), .retAddr 0, .int v108, .int v107, .ref l1]) bo_230_569_7dc6f5 rfl ?_
        refine r_aX mx_230 li_230_573 h (fun v109 h => ?_)
        refine h_ck h (fun hc h => ?_)
        refine h_cI h (fun v111 M110 e h => ?_)
        refine EV_call [.ref l1, .int v107, .int v108, .int v109] [] mx_230 li_230_574 rfl rfl si_22_74 rfl (by decide) (by decide) (by omega) ma_196 rfl (Nat.le_of_ble_eq_true rfl) rfl rfl (Nat.le_of_ble_eq_true rfl) (rc_1 mt_at_196 rfl rfl (by decide) hc) (e_x_savedState (by omega) l1 v107 v108 v109 M _ e) ?_
        show EV d 230 577 [some (.retAddr 0), some (.ref l1), some (.ref l2), some (.int l3)] [.int v111] M110 _
        refine EV_stq mx_230 (pc' := 582) (L' := [some (.retAddr 0), some (.ref l1), some (.ref l2), some (.int l3)]) (st' := [.int (l3 + (1 : Int32)), .retAddr 0, .ref l2, .int v111]) bo_230_577_83b748 rfl ?_
        refine r_aX mx_230 li_230_582 h (fun v112 h => ?_)
        refine EV_stq mx_230 (pc' := 587) (L' := [some (.retAddr 0), some (.ref l1), some (.ref l2), some (.int l3)]) (st' := [.int (l3 + (2 : Int32)), .retAddr 0, .int v112, .ref l2, .int v111]) bo_230_583_2ad11e rfl ?_
        refine r_aX mx_230 li_230_587 h (fun v113 h => ?_)
        refine EV_stq mx_230 (pc' := 592) (L' := [some (.retAddr 0), some (.ref l1), some (.ref l2), some (.int l3)]) (st' := [.int (l3 + (3 : Int32)), .retAddr 0, .int v113, .int v112, .ref l2, .int v111]) bo_230_588_0414dc rfl ?_
        refine r_aX mx_230 li_230_592 h (fun v114 h => ?_)
        refine h_ck h (fun hc h => ?_)
        refine h_cI h (fun v116 M115 e h => ?_)
        refine EV_call [.ref l2, .int v112, .int v113, .int v114] [.int v111] mx_230 li_230_593 rfl rfl si_22_77 rfl (by decide) (by decide) (by omega) ma_197 rfl (Nat.le_of_ble_eq_true rfl) rfl rfl (Nat.le_of_ble_eq_true rfl) (rc_1 mt_at_197 rfl rfl (by decide) hc) (e_m_savedState (by omega) l2 v112 v113 v114 M110 _ e) ?_
        show EV d 230 596 [some (.retAddr 0), some (.ref l1), some (.ref l2), some (.int l3)] [.int v116, .int v111] M115 _
        refine h_eq h (fun h hc => ?_) (fun h hc => ?_)
        · refine r_icT mx_230 li_230_596 (by decide) rfl hc ?_
          exact e_w_law_772 hd _ ih l1 l2 l3 M115 r h
        · refine r_icF mx_230 li_230_596 (by decide) hc ?_
          refine EV_stq mx_230 (pc' := 600) (L' := [some (.retAddr 0), some (.ref l1), some (.ref l2), some (.int l3)]) (st' := [.int (0 : Int32)]) bo_230_599_4db641 rfl ?_
          obtain rfl := Option.some.inj h
          exact r_ret mx_230 li_230_600 rfl (ro_nar (t := .boolean) (by decide) rfl)
      refine h_sw h (fun hh e15 => ?_) (fun h e15 => ?_)
      · clear h
        subst e15
        have h := hh
        clear hh
        refine r_tsI (off := 569) mx_230 li_230_32 (by decide +kernel) (by decide +kernel) (by decide) rfl ?_
        refine EV_stq mx_230 (pc' := 606) (L' := [some (.retAddr 0), some (.ref l1), some (.ref l2), some (.int l3)]) (st' := [.int (l3 + (1 : Int32)), .retAddr 0, .ref l1]) bo_230_601_e662dc rfl ?_
        refine r_aX mx_230 li_230_606 h (fun v117 h => ?_)
        refine h_ck h (fun hc h => ?_)
        refine h_cI h (fun v119 M118 e h => ?_)
        refine EV_call [.ref l1, .int v117] [] mx_230 li_230_607 rfl rfl si_22_78 rfl (by decide) (by decide) (by omega) ma_199 rfl (Nat.le_of_ble_eq_true rfl) rfl rfl (Nat.le_of_ble_eq_true rfl) (rc_1 mt_at_199 rfl rfl (by decide) hc) (e_x_latency (by omega) l1 v117 M _ e) ?_
        show EV d 230 610 [some (.retAddr 0), some (.ref l1), some (.ref l2), some (.int l3)] [.int v119] M118 _
        refine EV_stq mx_230 (pc' := 615) (L' := [some (.retAddr 0), some (.ref l1), some (.ref l2), some (.int l3)]) (st' := [.int (l3 + (1 : Int32)), .retAddr 0, .ref l2, .int v119]) bo_230_610_d2e5b8 rfl ?_
        refine r_aX mx_230 li_230_615 h (fun v120 h => ?_)
        refine h_ck h (fun hc h => ?_)
        refine h_cI h (fun v122 M121 e h => ?_)
        refine EV_call [.ref l2, .int v120] [.int v119] mx_230 li_230_616 rfl rfl si_22_81 rfl (by decide) (by decide) (by omega) ma_200 rfl (Nat.le_of_ble_eq_true rfl) rfl rfl (Nat.le_of_ble_eq_true rfl) (rc_1 mt_at_200 rfl rfl (by decide) hc) (e_m_latency (by omega) l2 v120 M118 _ e) ?_
        show EV d 230 619 [some (.retAddr 0), some (.ref l1), some (.ref l2), some (.int l3)] [.int v122, .int v119] M121 _
        refine h_eq h (fun h hc => ?_) (fun h hc => ?_)
        · refine r_icT mx_230 li_230_619 (by decide) rfl hc ?_
          exact e_w_law_772 hd _ ih l1 l2 l3 M121 r h
        · refine r_icF mx_230 li_230_619 (by decide) hc ?_
          refine EV_stq mx_230 (pc' := 623) (L' := [some (.retAddr 0), some (.ref l1), some (.ref l2), some (.int l3)]) (st' := [.int (0 : Int32)]) bo_230_622_639d82 rfl ?_
          obtain rfl := Option.some.inj h
          exact r_ret mx_230 li_230_623 rfl (ro_nar (t := .boolean) (by decide) rfl)
      refine h_sw h (fun hh e16 => ?_) (fun h e16 => ?_)
      · clear h
        subst e16
        have h := hh
        clear hh
        refine r_tsI (off := 592) mx_230 li_230_32 (by decide +kernel) (by decide +kernel) (by decide) rfl ?_
        refine EV_stq mx_230 (pc' := 629) (L' := [some (.retAddr 0), some (.ref l1), some (.ref l2), some (.int l3)]) (st' := [.int (l3 + (1 : Int32)), .retAddr 0, .ref l1]) bo_230_624_90456d rfl ?_
        refine r_aX mx_230 li_230_629 h (fun v123 h => ?_)
        refine EV_stq mx_230 (pc' := 634) (L' := [some (.retAddr 0), some (.ref l1), some (.ref l2), some (.int l3)]) (st' := [.int (l3 + (2 : Int32)), .retAddr 0, .int v123, .ref l1]) bo_230_630_aeb36d rfl ?_
        refine r_aX mx_230 li_230_634 h (fun v124 h => ?_)
        refine h_ck h (fun hc h => ?_)
        refine h_cI h (fun v126 M125 e h => ?_)
        refine EV_call [.ref l1, .int v123, .int v124] [] mx_230 li_230_635 rfl rfl si_22_82 rfl (by decide) (by decide) (by omega) ma_203 rfl (Nat.le_of_ble_eq_true rfl) rfl rfl (Nat.le_of_ble_eq_true rfl) (rc_1 mt_at_203 rfl rfl (by decide) hc) (e_x_plain (by omega) l1 v123 v124 M _ e) ?_
        show EV d 230 638 [some (.retAddr 0), some (.ref l1), some (.ref l2), some (.int l3)] [.int v126] M125 _
        refine EV_stq mx_230 (pc' := 643) (L' := [some (.retAddr 0), some (.ref l1), some (.ref l2), some (.int l3)]) (st' := [.int (l3 + (1 : Int32)), .retAddr 0, .ref l2, .int v126]) bo_230_638_bcc8a4 rfl ?_
        refine r_aX mx_230 li_230_643 h (fun v127 h => ?_)
        refine EV_stq mx_230 (pc' := 648) (L' := [some (.retAddr 0), some (.ref l1), some (.ref l2), some (.int l3)]) (st' := [.int (l3 + (2 : Int32)), .retAddr 0, .int v127, .ref l2, .int v126]) bo_230_644_1a68a2 rfl ?_
        refine r_aX mx_230 li_230_648 h (fun v128 h => ?_)
        refine h_ck h (fun hc h => ?_)
        refine h_cI h (fun v130 M129 e h => ?_)
        refine EV_call [.ref l2, .int v127, .int v128] [.int v126] mx_230 li_230_649 rfl rfl si_22_85 rfl (by decide) (by decide) (by omega) ma_205 rfl (Nat.le_of_ble_eq_true rfl) rfl rfl (Nat.le_of_ble_eq_true rfl) (rc_1 mt_at_205 rfl rfl (by decide) hc) (e_m_plain (by omega) l2 v127 v128 M125 _ e) ?_
        show EV d 230 652 [some (.retAddr 0), some (.ref l1), some (.ref l2), some (.int l3)] [.int v130, .int v126] M129 _
        refine h_eq h (fun h hc => ?_) (fun h hc => ?_)
        · refine r_icT mx_230 li_230_652 (by decide) rfl hc ?_
          exact e_w_law_772 hd _ ih l1 l2 l3 M129 r h
        · refine r_icF mx_230 li_230_652 (by decide) hc ?_
          refine EV_stq mx_230 (pc' := 656) (L' := [some (.retAddr 0), some (.ref l1), some (.ref l2), some (.int l3)]) (st' := [.int (0 : Int32)]) bo_230_655_042673 rfl ?_
          obtain rfl := Option.some.inj h
          exact r_ret mx_230 li_230_656 rfl (ro_nar (t := .boolean) (by decide) rfl)
      refine h_sw h (fun hh e17 => ?_) (fun h e17 => ?_)
      · clear h
        subst e17
        have h := hh
        clear hh
        refine r_tsI (off := 625) mx_230 li_230_32 (by decide +kernel) (by decide +kernel) (by decide) rfl ?_
        refine EV_stq mx_230 (pc' := 662) (L' := [some (.retAddr 0), some (.ref l1), some (.ref l2), some (.int l3)]) (st' := [.int (l3 + (1 : Int32)), .retAddr 0, .ref l1]) bo_230_657_dcc137 rfl ?_
        refine r_aX mx_230 li_230_662 h (fun v131 h => ?_)
        refine EV_stq mx_230 (pc' := 667) (L' := [some (.retAddr 0), some (.ref l1), some (.ref l2), some (.int l3)]) (st' := [.int (l3 + (2 : Int32)), .retAddr 0, .int v131, .ref l1]) bo_230_663_cd9cd3 rfl ?_
        refine r_aX mx_230 li_230_667 h (fun v132 h => ?_)
        refine h_ck h (fun hc h => ?_)
        refine h_cI h (fun v134 M133 e h => ?_)
        refine EV_call [.ref l1, .int v131, .int v132] [] mx_230 li_230_668 rfl rfl si_22_86 rfl (by decide) (by decide) (by omega) ma_210 rfl (Nat.le_of_ble_eq_true rfl) rfl rfl (Nat.le_of_ble_eq_true rfl) (rc_1 mt_at_210 rfl rfl (by decide) hc) (e_x_explain (by omega) l1 v131 v132 M _ e) ?_
        show EV d 230 671 [some (.retAddr 0), some (.ref l1), some (.ref l2), some (.int l3)] [.int v134] M133 _
        refine EV_stq mx_230 (pc' := 676) (L' := [some (.retAddr 0), some (.ref l1), some (.ref l2), some (.int l3)]) (st' := [.int (l3 + (1 : Int32)), .retAddr 0, .ref l2, .int v134]) bo_230_671_be98ad rfl ?_
        refine r_aX mx_230 li_230_676 h (fun v135 h => ?_)
        refine EV_stq mx_230 (pc' := 681) (L' := [some (.retAddr 0), some (.ref l1), some (.ref l2), some (.int l3)]) (st' := [.int (l3 + (2 : Int32)), .retAddr 0, .int v135, .ref l2, .int v134]) bo_230_677_4d8e0a rfl ?_
        refine r_aX mx_230 li_230_681 h (fun v136 h => ?_)
        refine h_ck h (fun hc h => ?_)
        refine h_cI h (fun v138 M137 e h => ?_)
        refine EV_call [.ref l2, .int v135, .int v136] [.int v134] mx_230 li_230_682 rfl rfl si_22_89 rfl (by decide) (by decide) (by omega) ma_212 rfl (Nat.le_of_ble_eq_true rfl) rfl rfl (Nat.le_of_ble_eq_true rfl) (rc_1 mt_at_212 rfl rfl (by decide) hc) (e_m_explain (by omega) l2 v135 v136 M133 _ e) ?_
        show EV d 230 685 [some (.retAddr 0), some (.ref l1), some (.ref l2), some (.int l3)] [.int v138, .int v134] M137 _
        refine h_eq h (fun h hc => ?_) (fun h hc => ?_)
        · refine r_icT mx_230 li_230_685 (by decide) rfl hc ?_
          exact e_w_law_772 hd _ ih l1 l2 l3 M137 r h
        · refine r_icF mx_230 li_230_685 (by decide) hc ?_
          refine EV_stq mx_230 (pc' := 689) (L' := [some (.retAddr 0), some (.ref l1), some (.ref l2), some (.int l3)]) (st' := [.int (0 : Int32)]) bo_230_688_1b782b rfl ?_
          obtain rfl := Option.some.inj h
          exact r_ret mx_230 li_230_689 rfl (ro_nar (t := .boolean) (by decide) rfl)
      refine h_sw h (fun hh e18 => ?_) (fun h e18 => ?_)
      · clear h
        subst e18
        have h := hh
        clear hh
        refine r_tsI (off := 658) mx_230 li_230_32 (by decide +kernel) (by decide +kernel) (by decide) rfl ?_
        refine EV_stq mx_230 (pc' := 695) (L' := [some (.retAddr 0), some (.ref l1), some (.ref l2), some (.int l3)]) (st' := [.int (l3 + (1 : Int32)), .retAddr 0, .ref l1]) bo_230_690_40199d rfl ?_
        refine r_aX mx_230 li_230_695 h (fun v139 h => ?_)
        refine EV_stq mx_230 (pc' := 700) (L' := [some (.retAddr 0), some (.ref l1), some (.ref l2), some (.int l3)]) (st' := [.int (l3 + (2 : Int32)), .retAddr 0, .int v139, .ref l1]) bo_230_696_c3f0d3 rfl ?_
        refine r_aX mx_230 li_230_700 h (fun v140 h => ?_)
        refine h_ck h (fun hc h => ?_)
        refine h_cI h (fun v142 M141 e h => ?_)
        refine EV_call [.ref l1, .int v139, .int v140] [] mx_230 li_230_701 rfl rfl si_22_90 rfl (by decide) (by decide) (by omega) ma_213 rfl (Nat.le_of_ble_eq_true rfl) rfl rfl (Nat.le_of_ble_eq_true rfl) (rc_1 mt_at_213 rfl rfl (by decide) hc) (e_x_explanation (by omega) l1 v139 v140 M _ e) ?_
        show EV d 230 704 [some (.retAddr 0), some (.ref l1), some (.ref l2), some (.int l3)] [.int v142] M141 _
        refine EV_stq mx_230 (pc' := 709) (L' := [some (.retAddr 0), some (.ref l1), some (.ref l2), some (.int l3)]) (st' := [.int (l3 + (1 : Int32)), .retAddr 0, .ref l2, .int v142]) bo_230_704_ddbb9e rfl ?_
        refine r_aX mx_230 li_230_709 h (fun v143 h => ?_)
        refine EV_stq mx_230 (pc' := 714) (L' := [some (.retAddr 0), some (.ref l1), some (.ref l2), some (.int l3)]) (st' := [.int (l3 + (2 : Int32)), .retAddr 0, .int v143, .ref l2, .int v142]) bo_230_710_cbf59e rfl ?_
        refine r_aX mx_230 li_230_714 h (fun v144 h => ?_)
        refine h_ck h (fun hc h => ?_)
        refine h_cI h (fun v146 M145 e h => ?_)
        refine EV_call [.ref l2, .int v143, .int v144] [.int v142] mx_230 li_230_715 rfl rfl si_22_93 rfl (by decide) (by decide) (by omega) ma_214 rfl (Nat.le_of_ble_eq_true rfl) rfl rfl (Nat.le_of_ble_eq_true rfl) (rc_1 mt_at_214 rfl rfl (by decide) hc) (e_m_explanation (by omega) l2 v143 v144 M141 _ e) ?_
        show EV d 230 718 [some (.retAddr 0), some (.ref l1), some (.ref l2), some (.int l3)] [.int v146, .int v142] M145 _
        refine h_eq h (fun h hc => ?_) (fun h hc => ?_)
        · refine r_icT mx_230 li_230_718 (by decide) rfl hc ?_
          exact e_w_law_772 hd _ ih l1 l2 l3 M145 r h
        · refine r_icF mx_230 li_230_718 (by decide) hc ?_
          refine EV_stq mx_230 (pc' := 722) (L' := [some (.retAddr 0), some (.ref l1), some (.ref l2), some (.int l3)]) (st' := [.int (0 : Int32)]) bo_230_721_b6e947 rfl ?_
          obtain rfl := Option.some.inj h
          exact r_ret mx_230 li_230_722 rfl (ro_nar (t := .boolean) (by decide) rfl)
      refine h_sw h (fun hh e19 => ?_) (fun h e19 => ?_)
      · clear h
        subst e19
        have h := hh
        clear hh
        refine r_tsI (off := 691) mx_230 li_230_32 (by decide +kernel) (by decide +kernel) (by decide) rfl ?_
        refine EV_stq mx_230 (pc' := 724) (L' := [some (.retAddr 0), some (.ref l1), some (.ref l2), some (.int l3)]) (st' := [.ref l1]) bo_230_723_ed131f rfl ?_
        refine h_ck h (fun hc h => ?_)
        refine h_cI h (fun v148 M147 e h => ?_)
        refine EV_call [.ref l1] [] mx_230 li_230_724 rfl rfl si_22_94 rfl (by decide) (by decide) (by omega) ma_222 rfl (Nat.le_of_ble_eq_true rfl) rfl rfl (Nat.le_of_ble_eq_true rfl) (rc_1 mt_at_222 rfl rfl (by decide) hc) (e_x_write (by omega) l1 M _ e) ?_
        show EV d 230 727 [some (.retAddr 0), some (.ref l1), some (.ref l2), some (.int l3)] [.int v148] M147 _
        refine EV_stq mx_230 (pc' := 728) (L' := [some (.retAddr 0), some (.ref l1), some (.ref l2), some (.int l3)]) (st' := [.ref l2, .int v148]) bo_230_727_1cd151 rfl ?_
        refine h_ck h (fun hc h => ?_)
        refine h_cI h (fun v150 M149 e h => ?_)
        refine EV_call [.ref l2] [.int v148] mx_230 li_230_728 rfl rfl si_22_97 rfl (by decide) (by decide) (by omega) ma_225 rfl (Nat.le_of_ble_eq_true rfl) rfl rfl (Nat.le_of_ble_eq_true rfl) (rc_1 mt_at_225 rfl rfl (by decide) hc) (e_m_write (by omega) l2 M147 _ e) ?_
        show EV d 230 731 [some (.retAddr 0), some (.ref l1), some (.ref l2), some (.int l3)] [.int v150, .int v148] M149 _
        refine h_eq h (fun h hc => ?_) (fun h hc => ?_)
        · refine r_icT mx_230 li_230_731 (by decide) rfl hc ?_
          exact e_w_law_772 hd _ ih l1 l2 l3 M149 r h
        · refine r_icF mx_230 li_230_731 (by decide) hc ?_
          refine EV_stq mx_230 (pc' := 735) (L' := [some (.retAddr 0), some (.ref l1), some (.ref l2), some (.int l3)]) (st' := [.int (0 : Int32)]) bo_230_734_7408ec rfl ?_
          obtain rfl := Option.some.inj h
          exact r_ret mx_230 li_230_735 rfl (ro_nar (t := .boolean) (by decide) rfl)
      refine h_sw h (fun hh e20 => ?_) (fun h e20 => ?_)
      · clear h
        subst e20
        have h := hh
        clear hh
        refine r_tsI (off := 704) mx_230 li_230_32 (by decide +kernel) (by decide +kernel) (by decide) rfl ?_
        refine EV_stq mx_230 (pc' := 741) (L' := [some (.retAddr 0), some (.ref l1), some (.ref l2), some (.int l3)]) (st' := [.int (l3 + (1 : Int32)), .retAddr 0, .ref l1]) bo_230_736_0314f3 rfl ?_
        refine r_aX mx_230 li_230_741 h (fun v151 h => ?_)
        refine h_ck h (fun hc h => ?_)
        refine h_cI h (fun v153 M152 e h => ?_)
        refine EV_call [.ref l1, .int v151] [] mx_230 li_230_742 rfl rfl si_22_98 rfl (by decide) (by decide) (by omega) ma_226 rfl (Nat.le_of_ble_eq_true rfl) rfl rfl (Nat.le_of_ble_eq_true rfl) (rc_1 mt_at_226 rfl rfl (by decide) hc) (e_x_written (by omega) l1 v151 M _ e) ?_
        show EV d 230 745 [some (.retAddr 0), some (.ref l1), some (.ref l2), some (.int l3)] [.int v153] M152 _
        refine EV_stq mx_230 (pc' := 750) (L' := [some (.retAddr 0), some (.ref l1), some (.ref l2), some (.int l3)]) (st' := [.int (l3 + (1 : Int32)), .retAddr 0, .ref l2, .int v153]) bo_230_745_4d9078 rfl ?_
        refine r_aX mx_230 li_230_750 h (fun v154 h => ?_)
        refine h_ck h (fun hc h => ?_)
        refine h_cI h (fun v156 M155 e h => ?_)
        refine EV_call [.ref l2, .int v154] [.int v153] mx_230 li_230_751 rfl rfl si_22_101 rfl (by decide) (by decide) (by omega) ma_227 rfl (Nat.le_of_ble_eq_true rfl) rfl rfl (Nat.le_of_ble_eq_true rfl) (rc_1 mt_at_227 rfl rfl (by decide) hc) (e_m_written (by omega) l2 v154 M152 _ e) ?_
        show EV d 230 754 [some (.retAddr 0), some (.ref l1), some (.ref l2), some (.int l3)] [.int v156, .int v153] M155 _
        refine h_eq h (fun h hc => ?_) (fun h hc => ?_)
        · refine r_icT mx_230 li_230_754 (by decide) rfl hc ?_
          exact e_w_law_772 hd _ ih l1 l2 l3 M155 r h
        · refine r_icF mx_230 li_230_754 (by decide) hc ?_
          refine EV_stq mx_230 (pc' := 758) (L' := [some (.retAddr 0), some (.ref l1), some (.ref l2), some (.int l3)]) (st' := [.int (0 : Int32)]) bo_230_757_09c6d3 rfl ?_
          obtain rfl := Option.some.inj h
          exact r_ret mx_230 li_230_758 rfl (ro_nar (t := .boolean) (by decide) rfl)
      refine h_sw h (fun hh e21 => ?_) (fun h e21 => ?_)
      · clear h
        subst e21
        have h := hh
        clear hh
        refine r_tsI (off := 727) mx_230 li_230_32 (by decide +kernel) (by decide +kernel) (by decide) rfl ?_
        refine EV_stq mx_230 (pc' := 760) (L' := [some (.retAddr 0), some (.ref l1), some (.ref l2), some (.int l3)]) (st' := [.ref l1]) bo_230_759_f614dd rfl ?_
        refine h_ck h (fun hc h => ?_)
        refine h_cI h (fun v158 M157 e h => ?_)
        refine EV_call [.ref l1] [] mx_230 li_230_760 rfl rfl si_22_102 rfl (by decide) (by decide) (by omega) ma_228 rfl (Nat.le_of_ble_eq_true rfl) rfl rfl (Nat.le_of_ble_eq_true rfl) (rc_1 mt_at_228 rfl rfl (by decide) hc) (e_x_clear (by omega) l1 M _ e) ?_
        show EV d 230 763 [some (.retAddr 0), some (.ref l1), some (.ref l2), some (.int l3)] [.int v158] M157 _
        refine EV_stq mx_230 (pc' := 764) (L' := [some (.retAddr 0), some (.ref l1), some (.ref l2), some (.int l3)]) (st' := [.ref l2, .int v158]) bo_230_763_8676d6 rfl ?_
        refine h_ck h (fun hc h => ?_)
        refine h_cI h (fun v160 M159 e h => ?_)
        refine EV_call [.ref l2] [.int v158] mx_230 li_230_764 rfl rfl si_22_105 rfl (by decide) (by decide) (by omega) ma_229 rfl (Nat.le_of_ble_eq_true rfl) rfl rfl (Nat.le_of_ble_eq_true rfl) (rc_1 mt_at_229 rfl rfl (by decide) hc) (e_m_clear (by omega) l2 M157 _ e) ?_
        show EV d 230 767 [some (.retAddr 0), some (.ref l1), some (.ref l2), some (.int l3)] [.int v160, .int v158] M159 _
        refine h_eq h (fun h hc => ?_) (fun h hc => ?_)
        · refine r_icT mx_230 li_230_767 (by decide) rfl hc ?_
          exact e_w_law_772 hd _ ih l1 l2 l3 M159 r h
        · refine r_icF mx_230 li_230_767 (by decide) hc ?_
          refine EV_stq mx_230 (pc' := 771) (L' := [some (.retAddr 0), some (.ref l1), some (.ref l2), some (.int l3)]) (st' := [.int (0 : Int32)]) bo_230_770_9d0f32 rfl ?_
          obtain rfl := Option.some.inj h
          exact r_ret mx_230 li_230_771 rfl (ro_nar (t := .boolean) (by decide) rfl)
      refine r_tsD mx_230 li_230_32 (by have n0 := lv_neT e0 (a := 0) (by decide); have n1 := lv_neT e1 (a := 1) (by decide); have n2 := lv_neT e2 (a := 2) (by decide); have n3 := lv_neT e3 (a := 3) (by decide); have n4 := lv_neT e4 (a := 4) (by decide); have n5 := lv_neT e5 (a := 5) (by decide); have n6 := lv_neT e6 (a := 6) (by decide); have n7 := lv_neT e7 (a := 7) (by decide); have n8 := lv_neT e8 (a := 8) (by decide); have n9 := lv_neT e9 (a := 9) (by decide); have n10 := lv_neT e10 (a := 10) (by decide); have n11 := lv_neT e11 (a := 11) (by decide); have n12 := lv_neT e12 (a := 12) (by decide); have n13 := lv_neT e13 (a := 13) (by decide); have n14 := lv_neT e14 (a := 14) (by decide); have n15 := lv_neT e15 (a := 15) (by decide); have n16 := lv_neT e16 (a := 16) (by decide); have n17 := lv_neT e17 (a := 17) (by decide); have n18 := lv_neT e18 (a := 18) (by decide); have n19 := lv_neT e19 (a := 19) (by decide); have n20 := lv_neT e20 (a := 20) (by decide); have n21 := lv_neT e21 (a := 21) (by decide); omega) (by decide) rfl ?_
      exact e_w_law_772 hd _ ih l1 l2 l3 M r h
theorem e_w_law {d : Nat} (hd : 14 ≤ d)  (M : Mem) (r : Int32 × Mem) (h : f_w_law  M = some r) : EV d 230 0 (entL 4 [.retAddr 0]) [] M (some (.int r.1), r.2) := by
  show EV d 230 0 [some (.retAddr 0), none, none, none] [] M _
  unfold f_w_law at h
  refine r_nO mx_230 li_230_0 nw_22_7 h (fun a1 M2 h => ?_)
  refine EV_stq mx_230 (pc' := 4) (L' := [some (.retAddr 0), none, none, none]) (st' := [.ref a1, .ref a1]) bo_230_3_f2577a rfl ?_
  refine h_cV h (fun M3 e h => ?_)
  refine EV_call [.ref a1] [.ref a1] mx_230 li_230_4 rfl rfl si_22_9 rfl (by decide) (by decide) (by omega) ma_14 rfl (Nat.le_of_ble_eq_true rfl) rfl rfl (Nat.le_of_ble_eq_true rfl) rfl (e_x_init (by omega) a1 M2 _ e) ?_
  show EV d 230 7 [some (.retAddr 0), none, none, none] [.ref a1] M3 _
  refine EV_stq mx_230 (pc' := 8) (L' := [some (.retAddr 0), some (.ref a1), none, none]) (st' := []) bo_230_7_9b264f rfl ?_
  refine r_nO mx_230 li_230_8 nw_22_10 h (fun a4 M5 h => ?_)
  refine EV_stq mx_230 (pc' := 12) (L' := [some (.retAddr 0), some (.ref a1), none, none]) (st' := [.ref a4, .ref a4]) bo_230_11_081257 rfl ?_
  refine h_cV h (fun M6 e h => ?_)
  refine EV_call [.ref a4] [.ref a4] mx_230 li_230_12 rfl rfl si_22_12 rfl (by decide) (by decide) (by omega) ma_15 rfl (Nat.le_of_ble_eq_true rfl) rfl rfl (Nat.le_of_ble_eq_true rfl) rfl (e_m_init (by omega) a4 M5 _ e) ?_
  show EV d 230 15 [some (.retAddr 0), some (.ref a1), none, none] [.ref a4] M6 _
  refine EV_stq mx_230 (pc' := 18) (L' := [some (.retAddr 0), some (.ref a1), some (.ref a4), some (.int (0 : Int32))]) (st' := []) bo_230_15_f418fa rfl ?_
  exact e_w_law_18 hd FU a1 a4 (0 : Int32) M6 r h
