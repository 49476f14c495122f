theorem bo_0_0_8d5162 : ∀ e ∈ ([(0, .aload_n 0, 1)] : List (Nat × Instr × Nat)), il_0.lookup e.1 = some e.2 := by decide +kernel
theorem li_0_1 : il_0.lookup 1 = some (.invokespecial 3, 4) := by decide +kernel
theorem bo_0_4_272186 : ∀ e ∈ ([(4, .getstatic 18, 7), (7, .ifCond .eq 18, 10), (10, .aload_n 0, 11), (11, .iload_n 1, 12)] : List (Nat × Instr × Nat)), il_0.lookup e.1 = some e.2 := by decide +kernel
theorem li_0_12 : il_0.lookup 12 = some (.newarray .byte, 14) := by decide +kernel
theorem li_0_14 : il_0.lookup 14 = some (.putfield 15, 17) := by decide +kernel
theorem bo_0_17_03196b : ∀ e ∈ ([(17, .aload_n 0, 18), (18, .iconst 0, 19)] : List (Nat × Instr × Nat)), il_0.lookup e.1 = some e.2 := by decide +kernel
theorem li_0_19 : il_0.lookup 19 = some (.putfield 22, 22) := by decide +kernel
theorem bo_0_22_60ac31 : ∀ e ∈ ([(22, .goto 16, 25)] : List (Nat × Instr × Nat)), il_0.lookup e.1 = some e.2 := by decide +kernel
theorem li_0_38 : il_0.lookup 38 = some (.return_, 39) := by decide +kernel
theorem bo_1_0_264884 : ∀ e ∈ ([(0, .aload_n 0, 1), (1, .bipush 16, 3)] : List (Nat × Instr × Nat)), il_1.lookup e.1 = some e.2 := by decide +kernel
theorem li_1_3 : il_1.lookup 3 = some (.invokespecial 1, 6) := by decide +kernel
theorem li_1_6 : il_1.lookup 6 = some (.return_, 7) := by decide +kernel
theorem bo_2_0_8d5162 : ∀ e ∈ ([(0, .aload_n 0, 1)] : List (Nat × Instr × Nat)), il_2.lookup e.1 = some e.2 := by decide +kernel
theorem li_2_1 : il_2.lookup 1 = some (.invokespecial 3, 4) := by decide +kernel
theorem bo_2_4_40e659 : ∀ e ∈ ([(4, .aload_n 0, 5), (5, .iconst 4, 6)] : List (Nat × Instr × Nat)), il_2.lookup e.1 = some e.2 := by decide +kernel
theorem li_2_6 : il_2.lookup 6 = some (.newarray .int, 8) := by decide +kernel
theorem li_2_8 : il_2.lookup 8 = some (.putfield 9, 11) := by decide +kernel
theorem bo_2_11_274bbd : ∀ e ∈ ([(11, .aload_n 0, 12), (12, .iconst 4, 13)] : List (Nat × Instr × Nat)), il_2.lookup e.1 = some e.2 := by decide +kernel
theorem li_2_13 : il_2.lookup 13 = some (.newarray .int, 15) := by decide +kernel
theorem li_2_15 : il_2.lookup 15 = some (.putfield 15, 18) := by decide +kernel
theorem bo_2_18_d268ac : ∀ e ∈ ([(18, .aload_n 0, 19), (19, .iconst 4, 20)] : List (Nat × Instr × Nat)), il_2.lookup e.1 = some e.2 := by decide +kernel
theorem li_2_20 : il_2.lookup 20 = some (.newarray .int, 22) := by decide +kernel
theorem li_2_22 : il_2.lookup 22 = some (.putfield 18, 25) := by decide +kernel
theorem bo_2_25_6328ed : ∀ e ∈ ([(25, .aload_n 0, 26), (26, .iconst 4, 27)] : List (Nat × Instr × Nat)), il_2.lookup e.1 = some e.2 := by decide +kernel
theorem li_2_27 : il_2.lookup 27 = some (.newarray .int, 29) := by decide +kernel
theorem li_2_29 : il_2.lookup 29 = some (.putfield 21, 32) := by decide +kernel
theorem bo_2_32_dac25e : ∀ e ∈ ([(32, .aload_n 0, 33), (33, .aload_n 1, 34)] : List (Nat × Instr × Nat)), il_2.lookup e.1 = some e.2 := by decide +kernel
theorem li_2_34 : il_2.lookup 34 = some (.putfield 24, 37) := by decide +kernel
theorem li_2_37 : il_2.lookup 37 = some (.return_, 38) := by decide +kernel
theorem bo_3_0_8d5162 : ∀ e ∈ ([(0, .aload_n 0, 1)] : List (Nat × Instr × Nat)), il_3.lookup e.1 = some e.2 := by decide +kernel
theorem li_3_1 : il_3.lookup 1 = some (.invokespecial 1, 4) := by decide +kernel
theorem bo_3_4_40e659 : ∀ e ∈ ([(4, .aload_n 0, 5), (5, .iconst 2, 6)] : List (Nat × Instr × Nat)), il_3.lookup e.1 = some e.2 := by decide +kernel
theorem li_3_6 : il_3.lookup 6 = some (.putfield 7, 9) := by decide +kernel
theorem bo_3_9_16efa2 : ∀ e ∈ ([(9, .aload_n 0, 10), (10, .iconst 3, 11)] : List (Nat × Instr × Nat)), il_3.lookup e.1 = some e.2 := by decide +kernel
theorem li_3_11 : il_3.lookup 11 = some (.putfield 13, 14) := by decide +kernel
theorem bo_3_14_4d7356 : ∀ e ∈ ([(14, .aload_n 0, 15), (15, .iconst 2, 16)] : List (Nat × Instr × Nat)), il_3.lookup e.1 = some e.2 := by decide +kernel
theorem li_3_16 : il_3.lookup 16 = some (.putfield 16, 19) := by decide +kernel
theorem bo_3_19_643a70 : ∀ e ∈ ([(19, .aload_n 0, 20), (20, .iconst 2, 21)] : List (Nat × Instr × Nat)), il_3.lookup e.1 = some e.2 := by decide +kernel
theorem li_3_21 : il_3.lookup 21 = some (.putfield 19, 24) := by decide +kernel
theorem li_3_24 : il_3.lookup 24 = some (.return_, 25) := by decide +kernel
theorem bo_4_0_8d5162 : ∀ e ∈ ([(0, .aload_n 0, 1)] : List (Nat × Instr × Nat)), il_4.lookup e.1 = some e.2 := by decide +kernel
theorem li_4_1 : il_4.lookup 1 = some (.invokespecial 1, 4) := by decide +kernel
theorem bo_4_4_406761 : ∀ e ∈ ([(4, .iconst 1, 5), (5, .iload_n 1, 6), (6, .bipush 7, 8), (8, .iand, 9), (9, .ishl, 10), (10, .istore_n 2, 11), (11, .aload_n 0, 12), (12, .iload_n 2, 13)] : List (Nat × Instr × Nat)), il_4.lookup e.1 = some e.2 := by decide +kernel
theorem li_4_13 : il_4.lookup 13 = some (.newarray .int, 15) := by decide +kernel
theorem li_4_15 : il_4.lookup 15 = some (.putfield 7, 18) := by decide +kernel
theorem bo_4_18_d268ac : ∀ e ∈ ([(18, .aload_n 0, 19), (19, .iload_n 2, 20)] : List (Nat × Instr × Nat)), il_4.lookup e.1 = some e.2 := by decide +kernel
theorem li_4_20 : il_4.lookup 20 = some (.newarray .int, 22) := by decide +kernel
theorem li_4_22 : il_4.lookup 22 = some (.putfield 13, 25) := by decide +kernel
theorem bo_4_25_6328ed : ∀ e ∈ ([(25, .aload_n 0, 26), (26, .iload_n 2, 27)] : List (Nat × Instr × Nat)), il_4.lookup e.1 = some e.2 := by decide +kernel
theorem li_4_27 : il_4.lookup 27 = some (.newarray .int, 29) := by decide +kernel
theorem li_4_29 : il_4.lookup 29 = some (.putfield 16, 32) := by decide +kernel
theorem bo_4_32_8178e9 : ∀ e ∈ ([(32, .aload_n 0, 33), (33, .iload_n 2, 34), (34, .iconst 1, 35), (35, .isub, 36)] : List (Nat × Instr × Nat)), il_4.lookup e.1 = some e.2 := by decide +kernel
theorem li_4_36 : il_4.lookup 36 = some (.putfield 19, 39) := by decide +kernel
theorem li_4_39 : il_4.lookup 39 = some (.return_, 40) := by decide +kernel
theorem bo_5_0_8d5162 : ∀ e ∈ ([(0, .aload_n 0, 1)] : List (Nat × Instr × Nat)), il_5.lookup e.1 = some e.2 := by decide +kernel
theorem li_5_1 : il_5.lookup 1 = some (.invokespecial 1, 4) := by decide +kernel
theorem bo_5_4_40e659 : ∀ e ∈ ([(4, .aload_n 0, 5), (5, .bipush 64, 7)] : List (Nat × Instr × Nat)), il_5.lookup e.1 = some e.2 := by decide +kernel
theorem li_5_7 : il_5.lookup 7 = some (.newarray .int, 9) := by decide +kernel
theorem li_5_9 : il_5.lookup 9 = some (.putfield 7, 12) := by decide +kernel
theorem li_5_12 : il_5.lookup 12 = some (.return_, 13) := by decide +kernel
theorem bo_6_0_8d5162 : ∀ e ∈ ([(0, .aload_n 0, 1)] : List (Nat × Instr × Nat)), il_6.lookup e.1 = some e.2 := by decide +kernel
theorem li_6_1 : il_6.lookup 1 = some (.invokespecial 3, 4) := by decide +kernel
theorem bo_6_4_40e659 : ∀ e ∈ ([(4, .aload_n 0, 5), (5, .bipush 16, 7)] : List (Nat × Instr × Nat)), il_6.lookup e.1 = some e.2 := by decide +kernel
theorem li_6_7 : il_6.lookup 7 = some (.newarray .int, 9) := by decide +kernel
theorem li_6_9 : il_6.lookup 9 = some (.putfield 9, 12) := by decide +kernel
theorem bo_6_12_1089ca : ∀ e ∈ ([(12, .aload_n 0, 13), (13, .bipush 16, 15)] : List (Nat × Instr × Nat)), il_6.lookup e.1 = some e.2 := by decide +kernel
theorem li_6_15 : il_6.lookup 15 = some (.newarray .int, 17) := by decide +kernel
theorem li_6_17 : il_6.lookup 17 = some (.putfield 15, 20) := by decide +kernel
theorem li_6_20 : il_6.lookup 20 = some (.return_, 21) := by decide +kernel
theorem bo_7_0_8d5162 : ∀ e ∈ ([(0, .aload_n 0, 1)] : List (Nat × Instr × Nat)), il_7.lookup e.1 = some e.2 := by decide +kernel
theorem li_7_1 : il_7.lookup 1 = some (.invokespecial 1, 4) := by decide +kernel
theorem bo_7_4_e962e2 : ∀ e ∈ ([(4, .aload_n 0, 5)] : List (Nat × Instr × Nat)), il_7.lookup e.1 = some e.2 := by decide +kernel
theorem li_7_5 : il_7.lookup 5 = some (.new 7, 8) := by decide +kernel
theorem bo_7_8_0adad6 : ∀ e ∈ ([(8, .dup, 9), (9, .iconst 2, 10)] : List (Nat × Instr × Nat)), il_7.lookup e.1 = some e.2 := by decide +kernel
theorem li_7_10 : il_7.lookup 10 = some (.invokespecial 9, 13) := by decide +kernel
theorem li_7_13 : il_7.lookup 13 = some (.putfield 12, 16) := by decide +kernel
theorem li_7_16 : il_7.lookup 16 = some (.return_, 17) := by decide +kernel
theorem bo_8_0_264884 : ∀ e ∈ ([(0, .aload_n 0, 1), (1, .iload_n 1, 2)] : List (Nat × Instr × Nat)), il_8.lookup e.1 = some e.2 := by decide +kernel
theorem li_8_2 : il_8.lookup 2 = some (.putfield 47, 5) := by decide +kernel
theorem bo_8_5_ca77c4 : ∀ e ∈ ([(5, .aload_n 0, 6), (6, .iload_n 2, 7)] : List (Nat × Instr × Nat)), il_8.lookup e.1 = some e.2 := by decide +kernel
theorem li_8_7 : il_8.lookup 7 = some (.putfield 51, 10) := by decide +kernel
theorem bo_8_10_42a704 : ∀ e ∈ ([(10, .aload_n 0, 11), (11, .iload_n 3, 12)] : List (Nat × Instr × Nat)), il_8.lookup e.1 = some e.2 := by decide +kernel
theorem li_8_12 : il_8.lookup 12 = some (.putfield 54, 15) := by decide +kernel
theorem bo_8_15_d45c32 : ∀ e ∈ ([(15, .aload_n 0, 16), (16, .iload 4, 18)] : List (Nat × Instr × Nat)), il_8.lookup e.1 = some e.2 := by decide +kernel
theorem li_8_18 : il_8.lookup 18 = some (.putfield 57, 21) := by decide +kernel
theorem li_8_21 : il_8.lookup 21 = some (.return_, 22) := by decide +kernel
theorem bo_9_70_c6678a : ∀ e ∈ ([(70, .iload_n 2, 71), (71, .aload_n 0, 72)] : List (Nat × Instr × Nat)), il_9.lookup e.1 = some e.2 := by decide +kernel
theorem li_9_72 : il_9.lookup 72 = some (.getfield 11, 75) := by decide +kernel
theorem li_9_75 : il_9.lookup 75 = some (.arraylength, 76) := by decide +kernel
theorem li_9_76 : il_9.lookup 76 = some (.if_icmp .ge 22, 79) := by decide +kernel
theorem bo_9_98_dbac35 : ∀ e ∈ ([(98, .aload_n 0, 99), (99, .iload_n 1, 100), (100, .iconst 0, 101), (101, .iconst 0, 102), (102, .iconst 1, 103)] : List (Nat × Instr × Nat)), il_9.lookup e.1 = some e.2 := by decide +kernel
theorem li_9_103 : il_9.lookup 103 = some (.invokevirtual 43, 106) := by decide +kernel
theorem li_9_106 : il_9.lookup 106 = some (.return_, 107) := by decide +kernel
theorem bo_9_79_febf86 : ∀ e ∈ ([(79, .aload_n 0, 80)] : List (Nat × Instr × Nat)), il_9.lookup e.1 = some e.2 := by decide +kernel
theorem li_9_80 : il_9.lookup 80 = some (.getfield 11, 83) := by decide +kernel
theorem bo_9_83_dbc641 : ∀ e ∈ ([(83, .iload_n 2, 84)] : List (Nat × Instr × Nat)), il_9.lookup e.1 = some e.2 := by decide +kernel
theorem li_9_84 : il_9.lookup 84 = some (.new 9, 87) := by decide +kernel
theorem bo_9_87_816bca : ∀ e ∈ ([(87, .dup, 88)] : List (Nat × Instr × Nat)), il_9.lookup e.1 = some e.2 := by decide +kernel
theorem li_9_88 : il_9.lookup 88 = some (.invokespecial 42, 91) := by decide +kernel
theorem li_9_91 : il_9.lookup 91 = some (.aastore, 92) := by decide +kernel
theorem bo_9_92_c58084 : ∀ e ∈ ([(92, .iinc 2 1, 95), (95, .goto (-25), 98)] : List (Nat × Instr × Nat)), il_9.lookup e.1 = some e.2 := by decide +kernel
theorem bo_9_0_8d5162 : ∀ e ∈ ([(0, .aload_n 0, 1)] : List (Nat × Instr × Nat)), il_9.lookup e.1 = some e.2 := by decide +kernel
theorem li_9_1 : il_9.lookup 1 = some (.invokespecial 3, 4) := by decide +kernel
theorem bo_9_4_40e659 : ∀ e ∈ ([(4, .aload_n 0, 5), (5, .iconst 3, 6)] : List (Nat × Instr × Nat)), il_9.lookup e.1 = some e.2 := by decide +kernel
theorem li_9_6 : il_9.lookup 6 = some (.anewarray 9, 9) := by decide +kernel
theorem li_9_9 : il_9.lookup 9 = some (.putfield 11, 12) := by decide +kernel
theorem bo_9_12_d0d0c9 : ∀ e ∈ ([(12, .aload_n 0, 13)] : List (Nat × Instr × Nat)), il_9.lookup e.1 = some e.2 := by decide +kernel
theorem li_9_13 : il_9.lookup 13 = some (.new 17, 16) := by decide +kernel
theorem bo_9_16_862b1a : ∀ e ∈ ([(16, .dup, 17)] : List (Nat × Instr × Nat)), il_9.lookup e.1 = some e.2 := by decide +kernel
theorem li_9_17 : il_9.lookup 17 = some (.invokespecial 19, 20) := by decide +kernel
theorem li_9_20 : il_9.lookup 20 = some (.putfield 20, 23) := by decide +kernel
theorem bo_9_23_b37e12 : ∀ e ∈ ([(23, .aload_n 0, 24)] : List (Nat × Instr × Nat)), il_9.lookup e.1 = some e.2 := by decide +kernel
theorem li_9_24 : il_9.lookup 24 = some (.new 17, 27) := by decide +kernel
theorem bo_9_27_58fada : ∀ e ∈ ([(27, .dup, 28)] : List (Nat × Instr × Nat)), il_9.lookup e.1 = some e.2 := by decide +kernel
theorem li_9_28 : il_9.lookup 28 = some (.invokespecial 19, 31) := by decide +kernel
theorem li_9_31 : il_9.lookup 31 = some (.putfield 24, 34) := by decide +kernel
theorem bo_9_34_130638 : ∀ e ∈ ([(34, .aload_n 0, 35)] : List (Nat × Instr × Nat)), il_9.lookup e.1 = some e.2 := by decide +kernel
theorem li_9_35 : il_9.lookup 35 = some (.new 17, 38) := by decide +kernel
theorem bo_9_38_c8c763 : ∀ e ∈ ([(38, .dup, 39)] : List (Nat × Instr × Nat)), il_9.lookup e.1 = some e.2 := by decide +kernel
theorem li_9_39 : il_9.lookup 39 = some (.invokespecial 19, 42) := by decide +kernel
theorem li_9_42 : il_9.lookup 42 = some (.putfield 27, 45) := by decide +kernel
theorem bo_9_45_8e29f2 : ∀ e ∈ ([(45, .aload_n 0, 46)] : List (Nat × Instr × Nat)), il_9.lookup e.1 = some e.2 := by decide +kernel
theorem li_9_46 : il_9.lookup 46 = some (.new 17, 49) := by decide +kernel
theorem bo_9_49_e052b7 : ∀ e ∈ ([(49, .dup, 50)] : List (Nat × Instr × Nat)), il_9.lookup e.1 = some e.2 := by decide +kernel
theorem li_9_50 : il_9.lookup 50 = some (.invokespecial 19, 53) := by decide +kernel
theorem li_9_53 : il_9.lookup 53 = some (.putfield 30, 56) := by decide +kernel
theorem bo_9_56_350148 : ∀ e ∈ ([(56, .aload_n 0, 57)] : List (Nat × Instr × Nat)), il_9.lookup e.1 = some e.2 := by decide +kernel
theorem li_9_57 : il_9.lookup 57 = some (.new 33, 60) := by decide +kernel
theorem bo_9_60_3e1655 : ∀ e ∈ ([(60, .dup, 61), (61, .iconst 2, 62)] : List (Nat × Instr × Nat)), il_9.lookup e.1 = some e.2 := by decide +kernel
theorem li_9_62 : il_9.lookup 62 = some (.invokespecial 35, 65) := by decide +kernel
theorem li_9_65 : il_9.lookup 65 = some (.putfield 38, 68) := by decide +kernel
theorem bo_9_68_702533 : ∀ e ∈ ([(68, .iconst 0, 69), (69, .istore_n 2, 70)] : List (Nat × Instr × Nat)), il_9.lookup e.1 = some e.2 := by decide +kernel
theorem bo_10_0_8d5162 : ∀ e ∈ ([(0, .aload_n 0, 1)] : List (Nat × Instr × Nat)), il_10.lookup e.1 = some e.2 := by decide +kernel
theorem li_10_1 : il_10.lookup 1 = some (.invokespecial 1, 4) := by decide +kernel
theorem bo_10_4_e962e2 : ∀ e ∈ ([(4, .aload_n 0, 5)] : List (Nat × Instr × Nat)), il_10.lookup e.1 = some e.2 := by decide +kernel
theorem li_10_5 : il_10.lookup 5 = some (.new 7, 8) := by decide +kernel
theorem bo_10_8_0adad6 : ∀ e ∈ ([(8, .dup, 9), (9, .iconst 5, 10)] : List (Nat × Instr × Nat)), il_10.lookup e.1 = some e.2 := by decide +kernel
theorem li_10_10 : il_10.lookup 10 = some (.invokespecial 9, 13) := by decide +kernel
theorem li_10_13 : il_10.lookup 13 = some (.putfield 12, 16) := by decide +kernel
theorem bo_10_16_f4f9fa : ∀ e ∈ ([(16, .aload_n 0, 17), (17, .iconst 4, 18)] : List (Nat × Instr × Nat)), il_10.lookup e.1 = some e.2 := by decide +kernel
theorem li_10_18 : il_10.lookup 18 = some (.newarray .int, 20) := by decide +kernel
theorem li_10_20 : il_10.lookup 20 = some (.putfield 18, 23) := by decide +kernel
theorem bo_10_23_31ad6f : ∀ e ∈ ([(23, .aload_n 0, 24), (24, .aload_n 1, 25)] : List (Nat × Instr × Nat)), il_10.lookup e.1 = some e.2 := by decide +kernel
theorem li_10_25 : il_10.lookup 25 = some (.putfield 22, 28) := by decide +kernel
theorem li_10_28 : il_10.lookup 28 = some (.return_, 29) := by decide +kernel
theorem bo_11_100_3b2469 : ∀ e ∈ ([(100, .iload_n 1, 101), (101, .aload_n 0, 102)] : List (Nat × Instr × Nat)), il_11.lookup e.1 = some e.2 := by decide +kernel
theorem li_11_102 : il_11.lookup 102 = some (.getfield 35, 105) := by decide +kernel
theorem li_11_105 : il_11.lookup 105 = some (.arraylength, 106) := by decide +kernel
theorem li_11_106 : il_11.lookup 106 = some (.if_icmp .ge 26, 109) := by decide +kernel
theorem li_11_132 : il_11.lookup 132 = some (.return_, 133) := by decide +kernel
theorem bo_11_109_9ce450 : ∀ e ∈ ([(109, .aload_n 0, 110)] : List (Nat × Instr × Nat)), il_11.lookup e.1 = some e.2 := by decide +kernel
theorem li_11_110 : il_11.lookup 110 = some (.getfield 35, 113) := by decide +kernel
theorem bo_11_113_1912b2 : ∀ e ∈ ([(113, .iload_n 1, 114)] : List (Nat × Instr × Nat)), il_11.lookup e.1 = some e.2 := by decide +kernel
theorem li_11_114 : il_11.lookup 114 = some (.new 33, 117) := by decide +kernel
theorem bo_11_117_32ffd4 : ∀ e ∈ ([(117, .dup, 118), (118, .aload_n 0, 119)] : List (Nat × Instr × Nat)), il_11.lookup e.1 = some e.2 := by decide +kernel
theorem li_11_119 : il_11.lookup 119 = some (.getfield 12, 122) := by decide +kernel
theorem li_11_122 : il_11.lookup 122 = some (.invokespecial 47, 125) := by decide +kernel
theorem li_11_125 : il_11.lookup 125 = some (.aastore, 126) := by decide +kernel
theorem bo_11_126_b7f253 : ∀ e ∈ ([(126, .iinc 1 1, 129), (129, .goto (-29), 132)] : List (Nat × Instr × Nat)), il_11.lookup e.1 = some e.2 := by decide +kernel
theorem li_11_88 : il_11.lookup 88 = some (.invokespecial 46, 91) := by decide +kernel
theorem li_11_91 : il_11.lookup 91 = some (.aastore, 92) := by decide +kernel
theorem bo_11_92_c58084 : ∀ e ∈ ([(92, .iinc 1 1, 95), (95, .goto (-36), 98)] : List (Nat × Instr × Nat)), il_11.lookup e.1 = some e.2 := by decide +kernel
theorem bo_11_59_d0b94e : ∀ e ∈ ([(59, .iload_n 1, 60), (60, .aload_n 0, 61)] : List (Nat × Instr × Nat)), il_11.lookup e.1 = some e.2 := by decide +kernel
theorem li_11_61 : il_11.lookup 61 = some (.getfield 29, 64) := by decide +kernel
theorem li_11_64 : il_11.lookup 64 = some (.arraylength, 65) := by decide +kernel
theorem li_11_65 : il_11.lookup 65 = some (.if_icmp .ge 33, 68) := by decide +kernel
theorem bo_11_98_51a86b : ∀ e ∈ ([(98, .iconst 0, 99), (99, .istore_n 1, 100)] : List (Nat × Instr × Nat)), il_11.lookup e.1 = some e.2 := by decide +kernel
theorem bo_11_68_7584e0 : ∀ e ∈ ([(68, .aload_n 0, 69)] : List (Nat × Instr × Nat)), il_11.lookup e.1 = some e.2 := by decide +kernel
theorem li_11_69 : il_11.lookup 69 = some (.getfield 29, 72) := by decide +kernel
theorem bo_11_72_c0ffc8 : ∀ e ∈ ([(72, .iload_n 1, 73)] : List (Nat × Instr × Nat)), il_11.lookup e.1 = some e.2 := by decide +kernel
theorem li_11_73 : il_11.lookup 73 = some (.new 27, 76) := by decide +kernel
theorem bo_11_76_3caaf4 : ∀ e ∈ ([(76, .dup, 77), (77, .iload_n 1, 78)] : List (Nat × Instr × Nat)), il_11.lookup e.1 = some e.2 := by decide +kernel
theorem li_11_78 : il_11.lookup 78 = some (.ifCond .ne 8, 81) := by decide +kernel
theorem bo_11_86_bff005 : ∀ e ∈ ([(86, .bipush 8, 88)] : List (Nat × Instr × Nat)), il_11.lookup e.1 = some e.2 := by decide +kernel
theorem bo_11_81_2da9fd : ∀ e ∈ ([(81, .bipush 7, 83), (83, .goto 5, 86)] : List (Nat × Instr × Nat)), il_11.lookup e.1 = some e.2 := by decide +kernel
theorem bo_11_0_8d5162 : ∀ e ∈ ([(0, .aload_n 0, 1)] : List (Nat × Instr × Nat)), il_11.lookup e.1 = some e.2 := by decide +kernel
theorem li_11_1 : il_11.lookup 1 = some (.invokespecial 3, 4) := by decide +kernel
theorem bo_11_4_e962e2 : ∀ e ∈ ([(4, .aload_n 0, 5)] : List (Nat × Instr × Nat)), il_11.lookup e.1 = some e.2 := by decide +kernel
theorem li_11_5 : il_11.lookup 5 = some (.new 9, 8) := by decide +kernel
theorem bo_11_8_383530 : ∀ e ∈ ([(8, .dup, 9)] : List (Nat × Instr × Nat)), il_11.lookup e.1 = some e.2 := by decide +kernel
theorem li_11_9 : il_11.lookup 9 = some (.invokespecial 11, 12) := by decide +kernel
theorem li_11_12 : il_11.lookup 12 = some (.putfield 12, 15) := by decide +kernel
theorem bo_11_15_be4250 : ∀ e ∈ ([(15, .aload_n 0, 16)] : List (Nat × Instr × Nat)), il_11.lookup e.1 = some e.2 := by decide +kernel
theorem li_11_16 : il_11.lookup 16 = some (.new 18, 19) := by decide +kernel
theorem bo_11_19_643a70 : ∀ e ∈ ([(19, .dup, 20), (20, .bipush 6, 22)] : List (Nat × Instr × Nat)), il_11.lookup e.1 = some e.2 := by decide +kernel
theorem li_11_22 : il_11.lookup 22 = some (.invokespecial 20, 25) := by decide +kernel
theorem li_11_25 : il_11.lookup 25 = some (.putfield 23, 28) := by decide +kernel
theorem bo_11_28_533662 : ∀ e ∈ ([(28, .aload_n 0, 29), (29, .bipush 6, 31)] : List (Nat × Instr × Nat)), il_11.lookup e.1 = some e.2 := by decide +kernel
theorem li_11_31 : il_11.lookup 31 = some (.anewarray 27, 34) := by decide +kernel
theorem li_11_34 : il_11.lookup 34 = some (.putfield 29, 37) := by decide +kernel
theorem bo_11_37_b7e9cc : ∀ e ∈ ([(37, .aload_n 0, 38), (38, .bipush 45, 40)] : List (Nat × Instr × Nat)), il_11.lookup e.1 = some e.2 := by decide +kernel
theorem li_11_40 : il_11.lookup 40 = some (.anewarray 33, 43) := by decide +kernel
theorem li_11_43 : il_11.lookup 43 = some (.putfield 35, 46) := by decide +kernel
theorem bo_11_46_4b02d4 : ∀ e ∈ ([(46, .aload_n 0, 47)] : List (Nat × Instr × Nat)), il_11.lookup e.1 = some e.2 := by decide +kernel
theorem li_11_47 : il_11.lookup 47 = some (.new 39, 50) := by decide +kernel
theorem bo_11_50_8a8783 : ∀ e ∈ ([(50, .dup, 51)] : List (Nat × Instr × Nat)), il_11.lookup e.1 = some e.2 := by decide +kernel
theorem li_11_51 : il_11.lookup 51 = some (.invokespecial 41, 54) := by decide +kernel
theorem li_11_54 : il_11.lookup 54 = some (.putfield 42, 57) := by decide +kernel
theorem bo_11_57_1292c4 : ∀ e ∈ ([(57, .iconst 0, 58), (58, .istore_n 1, 59)] : List (Nat × Instr × Nat)), il_11.lookup e.1 = some e.2 := by decide +kernel
theorem bo_12_0_8d5162 : ∀ e ∈ ([(0, .aload_n 0, 1)] : List (Nat × Instr × Nat)), il_12.lookup e.1 = some e.2 := by decide +kernel
theorem li_12_1 : il_12.lookup 1 = some (.invokespecial 3, 4) := by decide +kernel
theorem bo_12_4_40e659 : ∀ e ∈ ([(4, .aload_n 0, 5), (5, .aload_n 1, 6)] : List (Nat × Instr × Nat)), il_12.lookup e.1 = some e.2 := by decide +kernel
theorem li_12_6 : il_12.lookup 6 = some (.putfield 9, 9) := by decide +kernel
theorem li_12_9 : il_12.lookup 9 = some (.return_, 10) := by decide +kernel
theorem bo_13_0_8d5162 : ∀ e ∈ ([(0, .aload_n 0, 1)] : List (Nat × Instr × Nat)), il_13.lookup e.1 = some e.2 := by decide +kernel
theorem li_13_1 : il_13.lookup 1 = some (.invokespecial 3, 4) := by decide +kernel
theorem bo_13_4_40e659 : ∀ e ∈ ([(4, .aload_n 0, 5), (5, .bipush 8, 7)] : List (Nat × Instr × Nat)), il_13.lookup e.1 = some e.2 := by decide +kernel
theorem li_13_7 : il_13.lookup 7 = some (.newarray .int, 9) := by decide +kernel
theorem li_13_9 : il_13.lookup 9 = some (.putfield 9, 12) := by decide +kernel
theorem bo_13_12_1089ca : ∀ e ∈ ([(12, .aload_n 0, 13), (13, .bipush 8, 15)] : List (Nat × Instr × Nat)), il_13.lookup e.1 = some e.2 := by decide +kernel
theorem li_13_15 : il_13.lookup 15 = some (.newarray .int, 17) := by decide +kernel
theorem li_13_17 : il_13.lookup 17 = some (.putfield 15, 20) := by decide +kernel
theorem bo_13_20_aa2fda : ∀ e ∈ ([(20, .aload_n 0, 21), (21, .aload_n 1, 22)] : List (Nat × Instr × Nat)), il_13.lookup e.1 = some e.2 := by decide +kernel
theorem li_13_22 : il_13.lookup 22 = some (.putfield 18, 25) := by decide +kernel
theorem li_13_25 : il_13.lookup 25 = some (.return_, 26) := by decide +kernel
theorem bo_14_0_8d5162 : ∀ e ∈ ([(0, .aload_n 0, 1)] : List (Nat × Instr × Nat)), il_14.lookup e.1 = some e.2 := by decide +kernel
theorem li_14_1 : il_14.lookup 1 = some (.invokespecial 1, 4) := by decide +kernel
theorem bo_14_4_e962e2 : ∀ e ∈ ([(4, .aload_n 0, 5)] : List (Nat × Instr × Nat)), il_14.lookup e.1 = some e.2 := by decide +kernel
theorem li_14_5 : il_14.lookup 5 = some (.new 7, 8) := by decide +kernel
theorem bo_14_8_383530 : ∀ e ∈ ([(8, .dup, 9)] : List (Nat × Instr × Nat)), il_14.lookup e.1 = some e.2 := by decide +kernel
theorem li_14_9 : il_14.lookup 9 = some (.invokespecial 9, 12) := by decide +kernel
theorem li_14_12 : il_14.lookup 12 = some (.putfield 10, 15) := by decide +kernel
theorem bo_14_15_be4250 : ∀ e ∈ ([(15, .aload_n 0, 16)] : List (Nat × Instr × Nat)), il_14.lookup e.1 = some e.2 := by decide +kernel
theorem li_14_16 : il_14.lookup 16 = some (.new 7, 19) := by decide +kernel
theorem bo_14_19_1a8444 : ∀ e ∈ ([(19, .dup, 20)] : List (Nat × Instr × Nat)), il_14.lookup e.1 = some e.2 := by decide +kernel
theorem li_14_20 : il_14.lookup 20 = some (.invokespecial 9, 23) := by decide +kernel
theorem li_14_23 : il_14.lookup 23 = some (.putfield 16, 26) := by decide +kernel
theorem bo_14_26_bd3b31 : ∀ e ∈ ([(26, .aload_n 0, 27)] : List (Nat × Instr × Nat)), il_14.lookup e.1 = some e.2 := by decide +kernel
theorem li_14_27 : il_14.lookup 27 = some (.new 19, 30) := by decide +kernel
theorem bo_14_30_e4fc54 : ∀ e ∈ ([(30, .dup, 31), (31, .aload_n 0, 32)] : List (Nat × Instr × Nat)), il_14.lookup e.1 = some e.2 := by decide +kernel
theorem li_14_32 : il_14.lookup 32 = some (.getfield 10, 35) := by decide +kernel
theorem li_14_35 : il_14.lookup 35 = some (.invokespecial 21, 38) := by decide +kernel
theorem li_14_38 : il_14.lookup 38 = some (.putfield 24, 41) := by decide +kernel
theorem bo_14_41_45abaf : ∀ e ∈ ([(41, .aload_n 0, 42)] : List (Nat × Instr × Nat)), il_14.lookup e.1 = some e.2 := by decide +kernel
theorem li_14_42 : il_14.lookup 42 = some (.new 28, 45) := by decide +kernel
theorem bo_14_45_8e29f2 : ∀ e ∈ ([(45, .dup, 46)] : List (Nat × Instr × Nat)), il_14.lookup e.1 = some e.2 := by decide +kernel
theorem li_14_46 : il_14.lookup 46 = some (.invokespecial 30, 49) := by decide +kernel
theorem li_14_49 : il_14.lookup 49 = some (.putfield 31, 52) := by decide +kernel
theorem bo_14_52_118d3f : ∀ e ∈ ([(52, .aload_n 0, 53)] : List (Nat × Instr × Nat)), il_14.lookup e.1 = some e.2 := by decide +kernel
theorem li_14_53 : il_14.lookup 53 = some (.new 35, 56) := by decide +kernel
theorem bo_14_56_ba4435 : ∀ e ∈ ([(56, .dup, 57), (57, .aload_n 0, 58)] : List (Nat × Instr × Nat)), il_14.lookup e.1 = some e.2 := by decide +kernel
theorem li_14_58 : il_14.lookup 58 = some (.getfield 31, 61) := by decide +kernel
theorem li_14_61 : il_14.lookup 61 = some (.invokespecial 37, 64) := by decide +kernel
theorem li_14_64 : il_14.lookup 64 = some (.putfield 40, 67) := by decide +kernel
theorem bo_14_67_ded3a4 : ∀ e ∈ ([(67, .aload_n 0, 68)] : List (Nat × Instr × Nat)), il_14.lookup e.1 = some e.2 := by decide +kernel
theorem li_14_68 : il_14.lookup 68 = some (.new 44, 71) := by decide +kernel
theorem bo_14_71_0bf829 : ∀ e ∈ ([(71, .dup, 72), (72, .aload_n 0, 73)] : List (Nat × Instr × Nat)), il_14.lookup e.1 = some e.2 := by decide +kernel
theorem li_14_73 : il_14.lookup 73 = some (.getfield 31, 76) := by decide +kernel
theorem li_14_76 : il_14.lookup 76 = some (.invokespecial 46, 79) := by decide +kernel
theorem li_14_79 : il_14.lookup 79 = some (.putfield 47, 82) := by decide +kernel
theorem li_14_82 : il_14.lookup 82 = some (.return_, 83) := by decide +kernel
theorem bo_15_0_8d5162 : ∀ e ∈ ([(0, .aload_n 0, 1)] : List (Nat × Instr × Nat)), il_15.lookup e.1 = some e.2 := by decide +kernel
theorem li_15_1 : il_15.lookup 1 = some (.invokespecial 3, 4) := by decide +kernel
theorem bo_15_4_40e659 : ∀ e ∈ ([(4, .aload_n 0, 5), (5, .bipush 60, 7)] : List (Nat × Instr × Nat)), il_15.lookup e.1 = some e.2 := by decide +kernel
theorem li_15_7 : il_15.lookup 7 = some (.newarray .int, 9) := by decide +kernel
theorem li_15_9 : il_15.lookup 9 = some (.putfield 9, 12) := by decide +kernel
theorem bo_15_12_1089ca : ∀ e ∈ ([(12, .aload_n 0, 13), (13, .bipush 6, 15)] : List (Nat × Instr × Nat)), il_15.lookup e.1 = some e.2 := by decide +kernel
theorem li_15_15 : il_15.lookup 15 = some (.newarray .int, 17) := by decide +kernel
theorem li_15_17 : il_15.lookup 17 = some (.putfield 13, 20) := by decide +kernel
theorem bo_15_20_aa2fda : ∀ e ∈ ([(20, .aload_n 0, 21), (21, .bipush 6, 23)] : List (Nat × Instr × Nat)), il_15.lookup e.1 = some e.2 := by decide +kernel
theorem li_15_23 : il_15.lookup 23 = some (.newarray .int, 25) := by decide +kernel
theorem li_15_25 : il_15.lookup 25 = some (.putfield 16, 28) := by decide +kernel
theorem bo_15_28_533662 : ∀ e ∈ ([(28, .aload_n 0, 29), (29, .bipush 6, 31)] : List (Nat × Instr × Nat)), il_15.lookup e.1 = some e.2 := by decide +kernel
theorem li_15_31 : il_15.lookup 31 = some (.newarray .int, 33) := by decide +kernel
theorem li_15_33 : il_15.lookup 33 = some (.putfield 19, 36) := by decide +kernel
theorem bo_15_36_285c9e : ∀ e ∈ ([(36, .aload_n 0, 37), (37, .bipush 6, 39)] : List (Nat × Instr × Nat)), il_15.lookup e.1 = some e.2 := by decide +kernel
theorem li_15_39 : il_15.lookup 39 = some (.newarray .int, 41) := by decide +kernel
theorem li_15_41 : il_15.lookup 41 = some (.putfield 22, 44) := by decide +kernel
theorem bo_15_44_e175ea : ∀ e ∈ ([(44, .aload_n 0, 45), (45, .iconst 2, 46)] : List (Nat × Instr × Nat)), il_15.lookup e.1 = some e.2 := by decide +kernel
theorem li_15_46 : il_15.lookup 46 = some (.putfield 25, 49) := by decide +kernel
theorem bo_15_49_23be2b : ∀ e ∈ ([(49, .aload_n 0, 50), (50, .iconst 3, 51)] : List (Nat × Instr × Nat)), il_15.lookup e.1 = some e.2 := by decide +kernel
theorem li_15_51 : il_15.lookup 51 = some (.putfield 29, 54) := by decide +kernel
theorem bo_15_54_a3ab7c : ∀ e ∈ ([(54, .aload_n 0, 55), (55, .iconst 2, 56)] : List (Nat × Instr × Nat)), il_15.lookup e.1 = some e.2 := by decide +kernel
theorem li_15_56 : il_15.lookup 56 = some (.putfield 32, 59) := by decide +kernel
theorem bo_15_59_d0b94e : ∀ e ∈ ([(59, .aload_n 0, 60), (60, .iconst 2, 61)] : List (Nat × Instr × Nat)), il_15.lookup e.1 = some e.2 := by decide +kernel
theorem li_15_61 : il_15.lookup 61 = some (.putfield 35, 64) := by decide +kernel
theorem bo_15_64_23d05d : ∀ e ∈ ([(64, .aload_n 0, 65), (65, .bipush 60, 67)] : List (Nat × Instr × Nat)), il_15.lookup e.1 = some e.2 := by decide +kernel
theorem li_15_67 : il_15.lookup 67 = some (.newarray .int, 69) := by decide +kernel
theorem li_15_69 : il_15.lookup 69 = some (.putfield 38, 72) := by decide +kernel
theorem bo_15_72_215158 : ∀ e ∈ ([(72, .aload_n 0, 73), (73, .bipush 60, 75)] : List (Nat × Instr × Nat)), il_15.lookup e.1 = some e.2 := by decide +kernel
theorem li_15_75 : il_15.lookup 75 = some (.newarray .int, 77) := by decide +kernel
theorem li_15_77 : il_15.lookup 77 = some (.putfield 41, 80) := by decide +kernel
theorem bo_15_80_944268 : ∀ e ∈ ([(80, .aload_n 0, 81), (81, .bipush 6, 83)] : List (Nat × Instr × Nat)), il_15.lookup e.1 = some e.2 := by decide +kernel
theorem li_15_83 : il_15.lookup 83 = some (.newarray .int, 85) := by decide +kernel
theorem li_15_85 : il_15.lookup 85 = some (.putfield 44, 88) := by decide +kernel
theorem bo_15_88_700d2f : ∀ e ∈ ([(88, .aload_n 0, 89), (89, .bipush 6, 91)] : List (Nat × Instr × Nat)), il_15.lookup e.1 = some e.2 := by decide +kernel
theorem li_15_91 : il_15.lookup 91 = some (.newarray .int, 93) := by decide +kernel
theorem li_15_93 : il_15.lookup 93 = some (.putfield 47, 96) := by decide +kernel
theorem bo_15_96_31fd26 : ∀ e ∈ ([(96, .aload_n 0, 97), (97, .bipush 6, 99)] : List (Nat × Instr × Nat)), il_15.lookup e.1 = some e.2 := by decide +kernel
theorem li_15_99 : il_15.lookup 99 = some (.newarray .int, 101) := by decide +kernel
theorem li_15_101 : il_15.lookup 101 = some (.putfield 50, 104) := by decide +kernel
theorem bo_15_104_df8874 : ∀ e ∈ ([(104, .aload_n 0, 105), (105, .bipush 6, 107)] : List (Nat × Instr × Nat)), il_15.lookup e.1 = some e.2 := by decide +kernel
theorem li_15_107 : il_15.lookup 107 = some (.newarray .int, 109) := by decide +kernel
theorem li_15_109 : il_15.lookup 109 = some (.putfield 53, 112) := by decide +kernel
theorem bo_15_112_dbfc8f : ∀ e ∈ ([(112, .aload_n 0, 113), (113, .bipush 96, 115)] : List (Nat × Instr × Nat)), il_15.lookup e.1 = some e.2 := by decide +kernel
theorem li_15_115 : il_15.lookup 115 = some (.newarray .boolean, 117) := by decide +kernel
theorem li_15_117 : il_15.lookup 117 = some (.putfield 56, 120) := by decide +kernel
theorem bo_15_120_572ad1 : ∀ e ∈ ([(120, .aload_n 0, 121), (121, .bipush 96, 123)] : List (Nat × Instr × Nat)), il_15.lookup e.1 = some e.2 := by decide +kernel
theorem li_15_123 : il_15.lookup 123 = some (.newarray .boolean, 125) := by decide +kernel
theorem li_15_125 : il_15.lookup 125 = some (.putfield 60, 128) := by decide +kernel
theorem bo_15_128_29389d : ∀ e ∈ ([(128, .aload_n 0, 129), (129, .bipush 96, 131)] : List (Nat × Instr × Nat)), il_15.lookup e.1 = some e.2 := by decide +kernel
theorem li_15_131 : il_15.lookup 131 = some (.newarray .boolean, 133) := by decide +kernel
theorem li_15_133 : il_15.lookup 133 = some (.putfield 63, 136) := by decide +kernel
theorem bo_15_136_77463b : ∀ e ∈ ([(136, .aload_n 0, 137), (137, .bipush 96, 139)] : List (Nat × Instr × Nat)), il_15.lookup e.1 = some e.2 := by decide +kernel
theorem li_15_139 : il_15.lookup 139 = some (.newarray .int, 141) := by decide +kernel
theorem li_15_141 : il_15.lookup 141 = some (.putfield 66, 144) := by decide +kernel
theorem bo_15_144_322ea6 : ∀ e ∈ ([(144, .aload_n 0, 145), (145, .bipush 96, 147)] : List (Nat × Instr × Nat)), il_15.lookup e.1 = some e.2 := by decide +kernel
theorem li_15_147 : il_15.lookup 147 = some (.newarray .int, 149) := by decide +kernel
theorem li_15_149 : il_15.lookup 149 = some (.putfield 69, 152) := by decide +kernel
theorem bo_15_152_0a2aa9 : ∀ e ∈ ([(152, .aload_n 0, 153), (153, .bipush 96, 155)] : List (Nat × Instr × Nat)), il_15.lookup e.1 = some e.2 := by decide +kernel
theorem li_15_155 : il_15.lookup 155 = some (.newarray .int, 157) := by decide +kernel
theorem li_15_157 : il_15.lookup 157 = some (.putfield 72, 160) := by decide +kernel
theorem bo_15_160_31e032 : ∀ e ∈ ([(160, .aload_n 0, 161), (161, .bipush 96, 163)] : List (Nat × Instr × Nat)), il_15.lookup e.1 = some e.2 := by decide +kernel
theorem li_15_163 : il_15.lookup 163 = some (.newarray .int, 165) := by decide +kernel
theorem li_15_165 : il_15.lookup 165 = some (.putfield 75, 168) := by decide +kernel
theorem bo_15_168_f9fe1f : ∀ e ∈ ([(168, .aload_n 0, 169), (169, .bipush 96, 171)] : List (Nat × Instr × Nat)), il_15.lookup e.1 = some e.2 := by decide +kernel
theorem li_15_171 : il_15.lookup 171 = some (.newarray .int, 173) := by decide +kernel
theorem li_15_173 : il_15.lookup 173 = some (.putfield 78, 176) := by decide +kernel
theorem bo_15_176_138b94 : ∀ e ∈ ([(176, .aload_n 0, 177), (177, .bipush 96, 179)] : List (Nat × Instr × Nat)), il_15.lookup e.1 = some e.2 := by decide +kernel
theorem li_15_179 : il_15.lookup 179 = some (.newarray .int, 181) := by decide +kernel
theorem li_15_181 : il_15.lookup 181 = some (.putfield 81, 184) := by decide +kernel
theorem bo_15_184_353ce1 : ∀ e ∈ ([(184, .aload_n 0, 185), (185, .bipush 18, 187)] : List (Nat × Instr × Nat)), il_15.lookup e.1 = some e.2 := by decide +kernel
theorem li_15_187 : il_15.lookup 187 = some (.newarray .int, 189) := by decide +kernel
theorem li_15_189 : il_15.lookup 189 = some (.putfield 84, 192) := by decide +kernel
theorem bo_15_192_3c3630 : ∀ e ∈ ([(192, .aload_n 0, 193), (193, .bipush 18, 195)] : List (Nat × Instr × Nat)), il_15.lookup e.1 = some e.2 := by decide +kernel
theorem li_15_195 : il_15.lookup 195 = some (.newarray .int, 197) := by decide +kernel
theorem li_15_197 : il_15.lookup 197 = some (.putfield 87, 200) := by decide +kernel
theorem bo_15_200_300131 : ∀ e ∈ ([(200, .aload_n 0, 201), (201, .bipush 18, 203)] : List (Nat × Instr × Nat)), il_15.lookup e.1 = some e.2 := by decide +kernel
theorem li_15_203 : il_15.lookup 203 = some (.newarray .int, 205) := by decide +kernel
theorem li_15_205 : il_15.lookup 205 = some (.putfield 90, 208) := by decide +kernel
theorem bo_15_208_2f5ac8 : ∀ e ∈ ([(208, .aload_n 0, 209), (209, .bipush 18, 211)] : List (Nat × Instr × Nat)), il_15.lookup e.1 = some e.2 := by decide +kernel
theorem li_15_211 : il_15.lookup 211 = some (.newarray .int, 213) := by decide +kernel
theorem li_15_213 : il_15.lookup 213 = some (.putfield 93, 216) := by decide +kernel
theorem bo_15_216_04c04a : ∀ e ∈ ([(216, .aload_n 0, 217), (217, .bipush 54, 219)] : List (Nat × Instr × Nat)), il_15.lookup e.1 = some e.2 := by decide +kernel
theorem li_15_219 : il_15.lookup 219 = some (.newarray .int, 221) := by decide +kernel
theorem li_15_221 : il_15.lookup 221 = some (.putfield 96, 224) := by decide +kernel
theorem bo_15_224_019829 : ∀ e ∈ ([(224, .aload_n 0, 225), (225, .bipush 54, 227)] : List (Nat × Instr × Nat)), il_15.lookup e.1 = some e.2 := by decide +kernel
theorem li_15_227 : il_15.lookup 227 = some (.newarray .int, 229) := by decide +kernel
theorem li_15_229 : il_15.lookup 229 = some (.putfield 99, 232) := by decide +kernel
theorem bo_15_232_f658ea : ∀ e ∈ ([(232, .aload_n 0, 233), (233, .bipush 54, 235)] : List (Nat × Instr × Nat)), il_15.lookup e.1 = some e.2 := by decide +kernel
theorem li_15_235 : il_15.lookup 235 = some (.newarray .int, 237) := by decide +kernel
theorem li_15_237 : il_15.lookup 237 = some (.putfield 102, 240) := by decide +kernel
theorem bo_15_240_969ae2 : ∀ e ∈ ([(240, .aload_n 0, 241), (241, .bipush 18, 243)] : List (Nat × Instr × Nat)), il_15.lookup e.1 = some e.2 := by decide +kernel
theorem li_15_243 : il_15.lookup 243 = some (.newarray .int, 245) := by decide +kernel
theorem li_15_245 : il_15.lookup 245 = some (.putfield 105, 248) := by decide +kernel
theorem bo_15_248_dbf957 : ∀ e ∈ ([(248, .aload_n 0, 249), (249, .bipush 18, 251)] : List (Nat × Instr × Nat)), il_15.lookup e.1 = some e.2 := by decide +kernel
theorem li_15_251 : il_15.lookup 251 = some (.newarray .int, 253) := by decide +kernel
theorem li_15_253 : il_15.lookup 253 = some (.putfield 108, 256) := by decide +kernel
theorem bo_15_256_5f42aa : ∀ e ∈ ([(256, .aload_n 0, 257), (257, .bipush 18, 259)] : List (Nat × Instr × Nat)), il_15.lookup e.1 = some e.2 := by decide +kernel
theorem li_15_259 : il_15.lookup 259 = some (.newarray .boolean, 261) := by decide +kernel
theorem li_15_261 : il_15.lookup 261 = some (.putfield 111, 264) := by decide +kernel
theorem bo_15_264_507d26 : ∀ e ∈ ([(264, .aload_n 0, 265), (265, .bipush 54, 267)] : List (Nat × Instr × Nat)), il_15.lookup e.1 = some e.2 := by decide +kernel
theorem li_15_267 : il_15.lookup 267 = some (.newarray .int, 269) := by decide +kernel
theorem li_15_269 : il_15.lookup 269 = some (.putfield 114, 272) := by decide +kernel
theorem bo_15_272_ec4040 : ∀ e ∈ ([(272, .aload_n 0, 273), (273, .bipush 54, 275)] : List (Nat × Instr × Nat)), il_15.lookup e.1 = some e.2 := by decide +kernel
theorem li_15_275 : il_15.lookup 275 = some (.newarray .int, 277) := by decide +kernel
theorem li_15_277 : il_15.lookup 277 = some (.putfield 117, 280) := by decide +kernel
theorem bo_15_280_b8a032 : ∀ e ∈ ([(280, .aload_n 0, 281), (281, .sipush 216, 284)] : List (Nat × Instr × Nat)), il_15.lookup e.1 = some e.2 := by decide +kernel
theorem li_15_284 : il_15.lookup 284 = some (.newarray .int, 286) := by decide +kernel
theorem li_15_286 : il_15.lookup 286 = some (.putfield 120, 289) := by decide +kernel
theorem bo_15_289_4d4886 : ∀ e ∈ ([(289, .aload_n 0, 290), (290, .sipush 216, 293)] : List (Nat × Instr × Nat)), il_15.lookup e.1 = some e.2 := by decide +kernel
theorem li_15_293 : il_15.lookup 293 = some (.newarray .int, 295) := by decide +kernel
theorem li_15_295 : il_15.lookup 295 = some (.putfield 123, 298) := by decide +kernel
theorem bo_15_298_794375 : ∀ e ∈ ([(298, .aload_n 0, 299), (299, .sipush 216, 302)] : List (Nat × Instr × Nat)), il_15.lookup e.1 = some e.2 := by decide +kernel
theorem li_15_302 : il_15.lookup 302 = some (.newarray .int, 304) := by decide +kernel
theorem li_15_304 : il_15.lookup 304 = some (.putfield 126, 307) := by decide +kernel
theorem bo_15_307_669b03 : ∀ e ∈ ([(307, .aload_n 0, 308), (308, .bipush 54, 310)] : List (Nat × Instr × Nat)), il_15.lookup e.1 = some e.2 := by decide +kernel
theorem li_15_310 : il_15.lookup 310 = some (.newarray .int, 312) := by decide +kernel
theorem li_15_312 : il_15.lookup 312 = some (.putfield 129, 315) := by decide +kernel
theorem bo_15_315_a97b9a : ∀ e ∈ ([(315, .aload_n 0, 316), (316, .bipush 54, 318)] : List (Nat × Instr × Nat)), il_15.lookup e.1 = some e.2 := by decide +kernel
theorem li_15_318 : il_15.lookup 318 = some (.newarray .int, 320) := by decide +kernel
theorem li_15_320 : il_15.lookup 320 = some (.putfield 132, 323) := by decide +kernel
theorem bo_15_323_31c3ba : ∀ e ∈ ([(323, .aload_n 0, 324), (324, .sipush 216, 327)] : List (Nat × Instr × Nat)), il_15.lookup e.1 = some e.2 := by decide +kernel
theorem li_15_327 : il_15.lookup 327 = some (.newarray .int, 329) := by decide +kernel
theorem li_15_329 : il_15.lookup 329 = some (.putfield 135, 332) := by decide +kernel
theorem bo_15_332_4fd653 : ∀ e ∈ ([(332, .aload_n 0, 333), (333, .sipush 864, 336)] : List (Nat × Instr × Nat)), il_15.lookup e.1 = some e.2 := by decide +kernel
theorem li_15_336 : il_15.lookup 336 = some (.newarray .int, 338) := by decide +kernel
theorem li_15_338 : il_15.lookup 338 = some (.putfield 138, 341) := by decide +kernel
theorem bo_15_341_4749bb : ∀ e ∈ ([(341, .aload_n 0, 342), (342, .sipush 864, 345)] : List (Nat × Instr × Nat)), il_15.lookup e.1 = some e.2 := by decide +kernel
theorem li_15_345 : il_15.lookup 345 = some (.newarray .int, 347) := by decide +kernel
theorem li_15_347 : il_15.lookup 347 = some (.putfield 141, 350) := by decide +kernel
theorem bo_15_350_091fa1 : ∀ e ∈ ([(350, .aload_n 0, 351), (351, .sipush 864, 354)] : List (Nat × Instr × Nat)), il_15.lookup e.1 = some e.2 := by decide +kernel
theorem li_15_354 : il_15.lookup 354 = some (.newarray .int, 356) := by decide +kernel
theorem li_15_356 : il_15.lookup 356 = some (.putfield 144, 359) := by decide +kernel
theorem bo_15_359_0e9f6a : ∀ e ∈ ([(359, .aload_n 0, 360), (360, .ldc 147, 362)] : List (Nat × Instr × Nat)), il_15.lookup e.1 = some e.2 := by decide +kernel
theorem li_15_362 : il_15.lookup 362 = some (.newarray .int, 364) := by decide +kernel
theorem li_15_364 : il_15.lookup 364 = some (.putfield 148, 367) := by decide +kernel
theorem bo_15_367_4d3148 : ∀ e ∈ ([(367, .aload_n 0, 368), (368, .bipush 6, 370)] : List (Nat × Instr × Nat)), il_15.lookup e.1 = some e.2 := by decide +kernel
theorem li_15_370 : il_15.lookup 370 = some (.newarray .int, 372) := by decide +kernel
theorem li_15_372 : il_15.lookup 372 = some (.putfield 151, 375) := by decide +kernel
theorem bo_15_375_255f65 : ∀ e ∈ ([(375, .aload_n 0, 376), (376, .bipush 6, 378)] : List (Nat × Instr × Nat)), il_15.lookup e.1 = some e.2 := by decide +kernel
theorem li_15_378 : il_15.lookup 378 = some (.newarray .int, 380) := by decide +kernel
theorem li_15_380 : il_15.lookup 380 = some (.putfield 154, 383) := by decide +kernel
theorem bo_15_383_6485da : ∀ e ∈ ([(383, .aload_n 0, 384), (384, .bipush 6, 386)] : List (Nat × Instr × Nat)), il_15.lookup e.1 = some e.2 := by decide +kernel
theorem li_15_386 : il_15.lookup 386 = some (.newarray .int, 388) := by decide +kernel
theorem li_15_388 : il_15.lookup 388 = some (.putfield 157, 391) := by decide +kernel
theorem bo_15_391_29fa6d : ∀ e ∈ ([(391, .aload_n 0, 392), (392, .bipush 6, 394)] : List (Nat × Instr × Nat)), il_15.lookup e.1 = some e.2 := by decide +kernel
theorem li_15_394 : il_15.lookup 394 = some (.newarray .int, 396) := by decide +kernel
theorem li_15_396 : il_15.lookup 396 = some (.putfield 160, 399) := by decide +kernel
theorem bo_15_399_9b72be : ∀ e ∈ ([(399, .aload_n 0, 400), (400, .iconst 3, 401)] : List (Nat × Instr × Nat)), il_15.lookup e.1 = some e.2 := by decide +kernel
theorem li_15_401 : il_15.lookup 401 = some (.newarray .int, 403) := by decide +kernel
theorem li_15_403 : il_15.lookup 403 = some (.putfield 163, 406) := by decide +kernel
theorem bo_15_406_52b0b9 : ∀ e ∈ ([(406, .aload_n 0, 407), (407, .iconst 3, 408)] : List (Nat × Instr × Nat)), il_15.lookup e.1 = some e.2 := by decide +kernel
theorem li_15_408 : il_15.lookup 408 = some (.newarray .int, 410) := by decide +kernel
theorem li_15_410 : il_15.lookup 410 = some (.putfield 166, 413) := by decide +kernel
theorem bo_15_413_6c5e7c : ∀ e ∈ ([(413, .aload_n 0, 414), (414, .bipush 96, 416)] : List (Nat × Instr × Nat)), il_15.lookup e.1 = some e.2 := by decide +kernel
theorem li_15_416 : il_15.lookup 416 = some (.newarray .boolean, 418) := by decide +kernel
theorem li_15_418 : il_15.lookup 418 = some (.putfield 169, 421) := by decide +kernel
theorem bo_15_421_dcaafe : ∀ e ∈ ([(421, .aload_n 0, 422), (422, .bipush 96, 424)] : List (Nat × Instr × Nat)), il_15.lookup e.1 = some e.2 := by decide +kernel
theorem li_15_424 : il_15.lookup 424 = some (.newarray .int, 426) := by decide +kernel
theorem li_15_426 : il_15.lookup 426 = some (.putfield 172, 429) := by decide +kernel
theorem bo_15_429_d23cf9 : ∀ e ∈ ([(429, .aload_n 0, 430), (430, .bipush 96, 432)] : List (Nat × Instr × Nat)), il_15.lookup e.1 = some e.2 := by decide +kernel
theorem li_15_432 : il_15.lookup 432 = some (.newarray .int, 434) := by decide +kernel
theorem li_15_434 : il_15.lookup 434 = some (.putfield 175, 437) := by decide +kernel
theorem bo_15_437_c068d0 : ∀ e ∈ ([(437, .aload_n 0, 438), (438, .bipush 30, 440)] : List (Nat × Instr × Nat)), il_15.lookup e.1 = some e.2 := by decide +kernel
theorem li_15_440 : il_15.lookup 440 = some (.newarray .int, 442) := by decide +kernel
theorem li_15_442 : il_15.lookup 442 = some (.putfield 178, 445) := by decide +kernel
theorem bo_15_445_829854 : ∀ e ∈ ([(445, .aload_n 0, 446), (446, .bipush 30, 448)] : List (Nat × Instr × Nat)), il_15.lookup e.1 = some e.2 := by decide +kernel
theorem li_15_448 : il_15.lookup 448 = some (.newarray .int, 450) := by decide +kernel
theorem li_15_450 : il_15.lookup 450 = some (.putfield 181, 453) := by decide +kernel
theorem bo_15_453_3f2489 : ∀ e ∈ ([(453, .aload_n 0, 454), (454, .bipush 30, 456)] : List (Nat × Instr × Nat)), il_15.lookup e.1 = some e.2 := by decide +kernel
theorem li_15_456 : il_15.lookup 456 = some (.newarray .int, 458) := by decide +kernel
theorem li_15_458 : il_15.lookup 458 = some (.putfield 184, 461) := by decide +kernel
theorem bo_15_461_cb74a8 : ∀ e ∈ ([(461, .aload_n 0, 462), (462, .bipush 8, 464)] : List (Nat × Instr × Nat)), il_15.lookup e.1 = some e.2 := by decide +kernel
theorem li_15_464 : il_15.lookup 464 = some (.newarray .int, 466) := by decide +kernel
theorem li_15_466 : il_15.lookup 466 = some (.putfield 187, 469) := by decide +kernel
theorem bo_15_469_799eac : ∀ e ∈ ([(469, .aload_n 0, 470), (470, .bipush 8, 472)] : List (Nat × Instr × Nat)), il_15.lookup e.1 = some e.2 := by decide +kernel
theorem li_15_472 : il_15.lookup 472 = some (.newarray .int, 474) := by decide +kernel
theorem li_15_474 : il_15.lookup 474 = some (.putfield 190, 477) := by decide +kernel
theorem bo_15_477_756e4c : ∀ e ∈ ([(477, .aload_n 0, 478), (478, .bipush 80, 480)] : List (Nat × Instr × Nat)), il_15.lookup e.1 = some e.2 := by decide +kernel
theorem li_15_480 : il_15.lookup 480 = some (.newarray .int, 482) := by decide +kernel
theorem li_15_482 : il_15.lookup 482 = some (.putfield 193, 485) := by decide +kernel
theorem bo_15_485_2ab3ea : ∀ e ∈ ([(485, .aload_n 0, 486)] : List (Nat × Instr × Nat)), il_15.lookup e.1 = some e.2 := by decide +kernel
theorem li_15_486 : il_15.lookup 486 = some (.getfield 13, 489) := by decide +kernel
theorem bo_15_489_2ef75b : ∀ e ∈ ([(489, .iconst 0, 490), (490, .bipush 7, 492)] : List (Nat × Instr × Nat)), il_15.lookup e.1 = some e.2 := by decide +kernel
theorem li_15_492 : il_15.lookup 492 = some (.iastore, 493) := by decide +kernel
theorem bo_15_493_a2142d : ∀ e ∈ ([(493, .aload_n 0, 494)] : List (Nat × Instr × Nat)), il_15.lookup e.1 = some e.2 := by decide +kernel
theorem li_15_494 : il_15.lookup 494 = some (.getfield 13, 497) := by decide +kernel
theorem bo_15_497_3572d4 : ∀ e ∈ ([(497, .iconst 1, 498), (498, .bipush 8, 500)] : List (Nat × Instr × Nat)), il_15.lookup e.1 = some e.2 := by decide +kernel
theorem li_15_500 : il_15.lookup 500 = some (.iastore, 501) := by decide +kernel
theorem bo_15_501_871575 : ∀ e ∈ ([(501, .aload_n 0, 502)] : List (Nat × Instr × Nat)), il_15.lookup e.1 = some e.2 := by decide +kernel
theorem li_15_502 : il_15.lookup 502 = some (.getfield 22, 505) := by decide +kernel
theorem bo_15_505_820943 : ∀ e ∈ ([(505, .iconst 0, 506), (506, .iconst 1, 507)] : List (Nat × Instr × Nat)), il_15.lookup e.1 = some e.2 := by decide +kernel
theorem li_15_507 : il_15.lookup 507 = some (.iastore, 508) := by decide +kernel
theorem bo_15_508_afb1b7 : ∀ e ∈ ([(508, .aload_n 0, 509)] : List (Nat × Instr × Nat)), il_15.lookup e.1 = some e.2 := by decide +kernel
theorem li_15_509 : il_15.lookup 509 = some (.getfield 22, 512) := by decide +kernel
theorem bo_15_512_359a03 : ∀ e ∈ ([(512, .iconst 1, 513), (513, .iconst 1, 514)] : List (Nat × Instr × Nat)), il_15.lookup e.1 = some e.2 := by decide +kernel
theorem li_15_514 : il_15.lookup 514 = some (.iastore, 515) := by decide +kernel
theorem li_15_515 : il_15.lookup 515 = some (.return_, 516) := by decide +kernel
theorem bo_16_0_8d5162 : ∀ e ∈ ([(0, .aload_n 0, 1)] : List (Nat × Instr × Nat)), il_16.lookup e.1 = some e.2 := by decide +kernel
theorem li_16_1 : il_16.lookup 1 = some (.getfield 79, 4) := by decide +kernel
theorem li_16_4 : il_16.lookup 4 = some (.ireturn, 5) := by decide +kernel
theorem bo_17_0_8d5162 : ∀ e ∈ ([(0, .aload_n 0, 1)] : List (Nat × Instr × Nat)), il_17.lookup e.1 = some e.2 := by decide +kernel
theorem li_17_1 : il_17.lookup 1 = some (.invokespecial 343, 4) := by decide +kernel
theorem li_17_4 : il_17.lookup 4 = some (.ireturn, 5) := by decide +kernel
theorem bo_18_0_264884 : ∀ e ∈ ([(0, .iload_n 0, 1), (1, .iload_n 1, 2)] : List (Nat × Instr × Nat)), il_18.lookup e.1 = some e.2 := by decide +kernel
theorem li_18_2 : il_18.lookup 2 = some (.if_icmp .lt 7, 5) := by decide +kernel
theorem bo_18_9_afbef6 : ∀ e ∈ ([(9, .iload_n 1, 10)] : List (Nat × Instr × Nat)), il_18.lookup e.1 = some e.2 := by decide +kernel
theorem li_18_10 : il_18.lookup 10 = some (.ireturn, 11) := by decide +kernel
theorem bo_18_5_ca77c4 : ∀ e ∈ ([(5, .iload_n 0, 6), (6, .goto 4, 9)] : List (Nat × Instr × Nat)), il_18.lookup e.1 = some e.2 := by decide +kernel
theorem bo_19_0_8b3750 : ∀ e ∈ ([(0, .iload_n 0, 1), (1, .iload_n 1, 2), (2, .iload_n 2, 3)] : List (Nat × Instr × Nat)), il_19.lookup e.1 = some e.2 := by decide +kernel
theorem li_19_3 : il_19.lookup 3 = some (.invokestatic 194, 6) := by decide +kernel
theorem bo_19_6_edcc51 : ∀ e ∈ ([(6, .iadd, 7), (7, .istore_n 3, 8), (8, .iconst 0, 9), (9, .iload_n 3, 10)] : List (Nat × Instr × Nat)), il_19.lookup e.1 = some e.2 := by decide +kernel
theorem li_19_10 : il_19.lookup 10 = some (.if_icmp .ge 11, 13) := by decide +kernel
theorem bo_19_13_1f05a9 : ∀ e ∈ ([(13, .iload_n 3, 14), (14, .ldc 200, 16)] : List (Nat × Instr × Nat)), il_19.lookup e.1 = some e.2 := by decide +kernel
theorem li_19_16 : il_19.lookup 16 = some (.if_icmp .gt 5, 19) := by decide +kernel
theorem bo_19_19_1a8444 : ∀ e ∈ ([(19, .iload_n 3, 20)] : List (Nat × Instr × Nat)), il_19.lookup e.1 = some e.2 := by decide +kernel
theorem li_19_20 : il_19.lookup 20 = some (.ireturn, 21) := by decide +kernel
theorem bo_20_0_8d5162 : ∀ e ∈ ([(0, .aload_n 0, 1)] : List (Nat × Instr × Nat)), il_20.lookup e.1 = some e.2 := by decide +kernel
theorem li_20_1 : il_20.lookup 1 = some (.getfield 15, 4) := by decide +kernel
theorem li_20_4 : il_20.lookup 4 = some (.arraylength, 5) := by decide +kernel
theorem bo_20_5_d472e4 : ∀ e ∈ ([(5, .istore_n 2, 6), (6, .iload_n 1, 7), (7, .aload_n 0, 8)] : List (Nat × Instr × Nat)), il_20.lookup e.1 = some e.2 := by decide +kernel
theorem li_20_8 : il_20.lookup 8 = some (.getfield 22, 11) := by decide +kernel
theorem bo_20_11_2bff2d : ∀ e ∈ ([(11, .ishl, 12), (12, .istore_n 3, 13), (13, .iload_n 3, 14), (14, .iload_n 2, 15), (15, .isub, 16), (16, .istore 4, 18), (18, .iload_n 2, 19), (19, .iload 4, 21), (21, .iload_n 2, 22), (22, .iconst 2, 23), (23, .aload_n 0, 24)] : List (Nat × Instr × Nat)), il_20.lookup e.1 = some e.2 := by decide +kernel
theorem li_20_24 : il_20.lookup 24 = some (.getfield 22, 27) := by decide +kernel
theorem bo_20_27_fe3fdb : ∀ e ∈ ([(27, .ishl, 28), (28, .iadd, 29)] : List (Nat × Instr × Nat)), il_20.lookup e.1 = some e.2 := by decide +kernel
theorem li_20_29 : il_20.lookup 29 = some (.invokestatic 114, 32) := by decide +kernel
theorem bo_20_32_ea5e48 : ∀ e ∈ ([(32, .istore 5, 34), (34, .iload 5, 36), (36, .ldc 39, 38)] : List (Nat × Instr × Nat)), il_20.lookup e.1 = some e.2 := by decide +kernel
theorem li_20_38 : il_20.lookup 38 = some (.if_icmp .ne 13, 41) := by decide +kernel
theorem bo_20_51_dd8b5c : ∀ e ∈ ([(51, .iload 5, 53), (53, .aload_n 0, 54)] : List (Nat × Instr × Nat)), il_20.lookup e.1 = some e.2 := by decide +kernel
theorem li_20_54 : il_20.lookup 54 = some (.getfield 22, 57) := by decide +kernel
theorem bo_20_57_a9d9a3 : ∀ e ∈ ([(57, .ishr, 58)] : List (Nat × Instr × Nat)), il_20.lookup e.1 = some e.2 := by decide +kernel
theorem li_20_58 : il_20.lookup 58 = some (.ireturn, 59) := by decide +kernel
theorem bo_21_0_264884 : ∀ e ∈ ([(0, .iload_n 0, 1), (1, .iload_n 1, 2)] : List (Nat × Instr × Nat)), il_21.lookup e.1 = some e.2 := by decide +kernel
theorem li_21_2 : il_21.lookup 2 = some (.if_icmp .gt 7, 5) := by decide +kernel
theorem bo_21_9_afbef6 : ∀ e ∈ ([(9, .iload_n 1, 10)] : List (Nat × Instr × Nat)), il_21.lookup e.1 = some e.2 := by decide +kernel
theorem li_21_10 : il_21.lookup 10 = some (.ireturn, 11) := by decide +kernel
theorem bo_21_5_ca77c4 : ∀ e ∈ ([(5, .iload_n 0, 6), (6, .goto 4, 9)] : List (Nat × Instr × Nat)), il_21.lookup e.1 = some e.2 := by decide +kernel
theorem bo_22_0_264884 : ∀ e ∈ ([(0, .iload_n 1, 1), (1, .aload_n 0, 2)] : List (Nat × Instr × Nat)), il_22.lookup e.1 = some e.2 := by decide +kernel
theorem li_22_2 : il_22.lookup 2 = some (.arraylength, 3) := by decide +kernel
theorem li_22_3 : il_22.lookup 3 = some (.if_icmp .ne 11, 6) := by decide +kernel
theorem bo_22_14_3e81ce : ∀ e ∈ ([(14, .iload_n 1, 15)] : List (Nat × Instr × Nat)), il_22.lookup e.1 = some e.2 := by decide +kernel
theorem li_22_15 : il_22.lookup 15 = some (.newarray .byte, 17) := by decide +kernel
theorem bo_22_17_9661cb : ∀ e ∈ ([(17, .astore_n 2, 18), (18, .aload_n 0, 19), (19, .iconst 0, 20), (20, .aload_n 2, 21), (21, .iconst 0, 22), (22, .aload_n 0, 23)] : List (Nat × Instr × Nat)), il_22.lookup e.1 = some e.2 := by decide +kernel
theorem li_22_23 : il_22.lookup 23 = some (.arraylength, 24) := by decide +kernel
theorem bo_22_24_99aa1d : ∀ e ∈ ([(24, .iload_n 1, 25)] : List (Nat × Instr × Nat)), il_22.lookup e.1 = some e.2 := by decide +kernel
theorem li_22_25 : il_22.lookup 25 = some (.invokestatic 304, 28) := by decide +kernel
theorem li_22_28 : il_22.lookup 28 = some (.invokestatic 150, 31) := by decide +kernel
theorem bo_22_31_c379e3 : ∀ e ∈ ([(31, .aload_n 2, 32)] : List (Nat × Instr × Nat)), il_22.lookup e.1 = some e.2 := by decide +kernel
theorem li_22_32 : il_22.lookup 32 = some (.areturn, 33) := by decide +kernel
theorem bo_23_0_8d5162 : ∀ e ∈ ([(0, .aload_n 0, 1)] : List (Nat × Instr × Nat)), il_23.lookup e.1 = some e.2 := by decide +kernel
theorem li_23_1 : il_23.lookup 1 = some (.getfield 15, 4) := by decide +kernel
theorem li_23_4 : il_23.lookup 4 = some (.arraylength, 5) := by decide +kernel
theorem bo_23_5_7b98d2 : ∀ e ∈ ([(5, .aload_n 0, 6)] : List (Nat × Instr × Nat)), il_23.lookup e.1 = some e.2 := by decide +kernel
theorem li_23_6 : il_23.lookup 6 = some (.getfield 22, 9) := by decide +kernel
theorem bo_23_9_650742 : ∀ e ∈ ([(9, .ishr, 10), (10, .istore_n 2, 11), (11, .iload_n 1, 12), (12, .iload_n 2, 13), (13, .isub, 14)] : List (Nat × Instr × Nat)), il_23.lookup e.1 = some e.2 := by decide +kernel
theorem li_23_14 : il_23.lookup 14 = some (.ifCond .le 24, 17) := by decide +kernel
theorem li_23_38 : il_23.lookup 38 = some (.return_, 39) := by decide +kernel
theorem bo_23_17_03196b : ∀ e ∈ ([(17, .aload_n 0, 18), (18, .aload_n 0, 19)] : List (Nat × Instr × Nat)), il_23.lookup e.1 = some e.2 := by decide +kernel
theorem li_23_19 : il_23.lookup 19 = some (.getfield 15, 22) := by decide +kernel
theorem bo_23_22_13b32e : ∀ e ∈ ([(22, .aload_n 0, 23), (23, .iload_n 1, 24)] : List (Nat × Instr × Nat)), il_23.lookup e.1 = some e.2 := by decide +kernel
theorem li_23_24 : il_23.lookup 24 = some (.invokevirtual 104, 27) := by decide +kernel
theorem bo_23_27_58fada : ∀ e ∈ ([(27, .aload_n 0, 28)] : List (Nat × Instr × Nat)), il_23.lookup e.1 = some e.2 := by decide +kernel
theorem li_23_28 : il_23.lookup 28 = some (.getfield 22, 31) := by decide +kernel
theorem bo_23_31_c379e3 : ∀ e ∈ ([(31, .ishl, 32)] : List (Nat × Instr × Nat)), il_23.lookup e.1 = some e.2 := by decide +kernel
theorem li_23_32 : il_23.lookup 32 = some (.invokestatic 108, 35) := by decide +kernel
theorem li_23_35 : il_23.lookup 35 = some (.putfield 15, 38) := by decide +kernel
theorem bo_24_0_1808c0 : ∀ e ∈ ([(0, .getstatic 18, 3), (3, .ifCond .eq 14, 6), (6, .aload_n 0, 7)] : List (Nat × Instr × Nat)), il_24.lookup e.1 = some e.2 := by decide +kernel
theorem li_24_7 : il_24.lookup 7 = some (.getfield 22, 10) := by decide +kernel
theorem li_24_10 : il_24.lookup 10 = some (.ifCond .ne 7, 13) := by decide +kernel
theorem bo_24_17_509256 : ∀ e ∈ ([(17, .iconst 0, 18)] : List (Nat × Instr × Nat)), il_24.lookup e.1 = some e.2 := by decide +kernel
theorem li_24_18 : il_24.lookup 18 = some (.ireturn, 19) := by decide +kernel
theorem bo_24_13_1f05a9 : ∀ e ∈ ([(13, .iconst 1, 14), (14, .goto 4, 17)] : List (Nat × Instr × Nat)), il_24.lookup e.1 = some e.2 := by decide +kernel
theorem bo_25_0_264884 : ∀ e ∈ ([(0, .iload_n 0, 1), (1, .sipush 255, 4)] : List (Nat × Instr × Nat)), il_25.lookup e.1 = some e.2 := by decide +kernel
theorem li_25_4 : il_25.lookup 4 = some (.if_icmp .gt 7, 7) := by decide +kernel
theorem bo_25_11_081257 : ∀ e ∈ ([(11, .iconst 0, 12)] : List (Nat × Instr × Nat)), il_25.lookup e.1 = some e.2 := by decide +kernel
theorem li_25_12 : il_25.lookup 12 = some (.ireturn, 13) := by decide +kernel
theorem bo_25_7_7eef78 : ∀ e ∈ ([(7, .iconst 1, 8), (8, .goto 4, 11)] : List (Nat × Instr × Nat)), il_25.lookup e.1 = some e.2 := by decide +kernel
theorem bo_26_45_8e29f2 : ∀ e ∈ ([(45, .aload_n 0, 46)] : List (Nat × Instr × Nat)), il_26.lookup e.1 = some e.2 := by decide +kernel
theorem li_26_46 : il_26.lookup 46 = some (.invokevirtual 83, 49) := by decide +kernel
theorem li_26_49 : il_26.lookup 49 = some (.ifCond .eq 7, 52) := by decide +kernel
theorem bo_26_56_350148 : ∀ e ∈ ([(56, .aload_n 0, 57)] : List (Nat × Instr × Nat)), il_26.lookup e.1 = some e.2 := by decide +kernel
theorem li_26_57 : il_26.lookup 57 = some (.getfield 15, 60) := by decide +kernel
theorem bo_26_60_3e1655 : ∀ e ∈ ([(60, .aload_n 0, 61), (61, .dup, 62)] : List (Nat × Instr × Nat)), il_26.lookup e.1 = some e.2 := by decide +kernel
theorem li_26_62 : il_26.lookup 62 = some (.getfield 79, 65) := by decide +kernel
theorem bo_26_65_b551c5 : ∀ e ∈ ([(65, .dup_x1, 66), (66, .iconst 1, 67), (67, .iadd, 68)] : List (Nat × Instr × Nat)), il_26.lookup e.1 = some e.2 := by decide +kernel
theorem li_26_68 : il_26.lookup 68 = some (.putfield 79, 71) := by decide +kernel
theorem bo_26_0_264884 : ∀ e ∈ ([(0, .aload_n 0, 1), (1, .aload_n 0, 2)] : List (Nat × Instr × Nat)), il_26.lookup e.1 = some e.2 := by decide +kernel
theorem li_26_2 : il_26.lookup 2 = some (.getfield 79, 5) := by decide +kernel
theorem bo_26_5_ca77c4 : ∀ e ∈ ([(5, .iconst 1, 6), (6, .iadd, 7)] : List (Nat × Instr × Nat)), il_26.lookup e.1 = some e.2 := by decide +kernel
theorem li_26_7 : il_26.lookup 7 = some (.invokevirtual 100, 10) := by decide +kernel
theorem bo_26_10_2a30f5 : ∀ e ∈ ([(10, .aload_n 0, 11)] : List (Nat × Instr × Nat)), il_26.lookup e.1 = some e.2 := by decide +kernel
theorem li_26_11 : il_26.lookup 11 = some (.invokevirtual 83, 14) := by decide +kernel
theorem li_26_14 : il_26.lookup 14 = some (.ifCond .eq 31, 17) := by decide +kernel
theorem bo_26_17_509256 : ∀ e ∈ ([(17, .iload_n 1, 18)] : List (Nat × Instr × Nat)), il_26.lookup e.1 = some e.2 := by decide +kernel
theorem li_26_18 : il_26.lookup 18 = some (.invokestatic 191, 21) := by decide +kernel
theorem li_26_21 : il_26.lookup 21 = some (.ifCond .eq 24, 24) := by decide +kernel
theorem bo_26_24_99aa1d : ∀ e ∈ ([(24, .aload_n 0, 25)] : List (Nat × Instr × Nat)), il_26.lookup e.1 = some e.2 := by decide +kernel
theorem li_26_25 : il_26.lookup 25 = some (.getfield 15, 28) := by decide +kernel
theorem bo_26_28_533662 : ∀ e ∈ ([(28, .aload_n 0, 29), (29, .dup, 30)] : List (Nat × Instr × Nat)), il_26.lookup e.1 = some e.2 := by decide +kernel
theorem li_26_30 : il_26.lookup 30 = some (.getfield 79, 33) := by decide +kernel
theorem bo_26_33_b93c6f : ∀ e ∈ ([(33, .dup_x1, 34), (34, .iconst 1, 35), (35, .iadd, 36)] : List (Nat × Instr × Nat)), il_26.lookup e.1 = some e.2 := by decide +kernel
theorem li_26_36 : il_26.lookup 36 = some (.putfield 79, 39) := by decide +kernel
theorem bo_26_39_9c41c6 : ∀ e ∈ ([(39, .iload_n 1, 40), (40, .i2b, 41)] : List (Nat × Instr × Nat)), il_26.lookup e.1 = some e.2 := by decide +kernel
theorem li_26_41 : il_26.lookup 41 = some (.bastore, 42) := by decide +kernel
theorem bo_26_42_02ab90 : ∀ e ∈ ([(42, .goto 33, 45), (75, .aload_n 0, 76)] : List (Nat × Instr × Nat)), il_26.lookup e.1 = some e.2 := by decide +kernel
theorem li_26_76 : il_26.lookup 76 = some (.areturn, 77) := by decide +kernel
theorem bo_27_0_264884 : ∀ e ∈ ([(0, .aload_n 0, 1), (1, .iload_n 1, 2)] : List (Nat × Instr × Nat)), il_27.lookup e.1 = some e.2 := by decide +kernel
theorem li_27_2 : il_27.lookup 2 = some (.invokespecial 50, 5) := by decide +kernel
theorem bo_27_5_ca77c4 : ∀ e ∈ ([(5, .pop, 6), (6, .aload_n 0, 7)] : List (Nat × Instr × Nat)), il_27.lookup e.1 = some e.2 := by decide +kernel
theorem li_27_7 : il_27.lookup 7 = some (.areturn, 8) := by decide +kernel
theorem bo_28_43_98bd08 : ∀ e ∈ ([(43, .iload_n 3, 44), (44, .iload_n 2, 45)] : List (Nat × Instr × Nat)), il_28.lookup e.1 = some e.2 := by decide +kernel
theorem li_28_45 : il_28.lookup 45 = some (.if_icmp .ge 19, 48) := by decide +kernel
theorem bo_28_64_446f01 : ∀ e ∈ ([(64, .aload_n 0, 65)] : List (Nat × Instr × Nat)), il_28.lookup e.1 = some e.2 := by decide +kernel
theorem li_28_65 : il_28.lookup 65 = some (.getfield 10, 68) := by decide +kernel
theorem li_28_68 : il_28.lookup 68 = some (.invokevirtual 52, 71) := by decide +kernel
theorem li_28_71 : il_28.lookup 71 = some (.ireturn, 72) := by decide +kernel
theorem bo_28_48_04c55a : ∀ e ∈ ([(48, .aload_n 0, 49)] : List (Nat × Instr × Nat)), il_28.lookup e.1 = some e.2 := by decide +kernel
theorem li_28_49 : il_28.lookup 49 = some (.getfield 10, 52) := by decide +kernel
theorem bo_28_52_9f6391 : ∀ e ∈ ([(52, .iload_n 1, 53), (53, .i2c, 54)] : List (Nat × Instr × Nat)), il_28.lookup e.1 = some e.2 := by decide +kernel
theorem li_28_54 : il_28.lookup 54 = some (.invokevirtual 57, 57) := by decide +kernel
theorem bo_28_57_59a03e : ∀ e ∈ ([(57, .pop, 58), (58, .iinc 3 1, 61), (61, .goto (-18), 64)] : List (Nat × Instr × Nat)), il_28.lookup e.1 = some e.2 := by decide +kernel
theorem bo_28_0_8d5162 : ∀ e ∈ ([(0, .iload_n 1, 1)] : List (Nat × Instr × Nat)), il_28.lookup e.1 = some e.2 := by decide +kernel
theorem li_28_1 : il_28.lookup 1 = some (.ifCond .lt 20, 4) := by decide +kernel
theorem bo_28_21_46c79c : ∀ e ∈ ([(21, .ldc 51, 23)] : List (Nat × Instr × Nat)), il_28.lookup e.1 = some e.2 := by decide +kernel
theorem li_28_23 : il_28.lookup 23 = some (.ireturn, 24) := by decide +kernel
theorem bo_28_4_40e659 : ∀ e ∈ ([(4, .iload_n 1, 5), (5, .bipush 127, 7)] : List (Nat × Instr × Nat)), il_28.lookup e.1 = some e.2 := by decide +kernel
theorem li_28_7 : il_28.lookup 7 = some (.if_icmp .gt 14, 10) := by decide +kernel
theorem bo_28_10_42a704 : ∀ e ∈ ([(10, .iload_n 2, 11), (11, .iconst 1, 12)] : List (Nat × Instr × Nat)), il_28.lookup e.1 = some e.2 := by decide +kernel
theorem li_28_12 : il_28.lookup 12 = some (.if_icmp .lt 9, 15) := by decide +kernel
theorem bo_28_15_d45c32 : ∀ e ∈ ([(15, .iload_n 2, 16), (16, .bipush 60, 18)] : List (Nat × Instr × Nat)), il_28.lookup e.1 = some e.2 := by decide +kernel
theorem li_28_18 : il_28.lookup 18 = some (.if_icmp .le 6, 21) := by decide +kernel
theorem bo_28_24_99aa1d : ∀ e ∈ ([(24, .aload_n 0, 25)] : List (Nat × Instr × Nat)), il_28.lookup e.1 = some e.2 := by decide +kernel
theorem li_28_25 : il_28.lookup 25 = some (.getfield 10, 28) := by decide +kernel
theorem li_28_28 : il_28.lookup 28 = some (.invokevirtual 52, 31) := by decide +kernel
theorem bo_28_31_d48d79 : ∀ e ∈ ([(31, .iload_n 2, 32), (32, .iadd, 33), (33, .bipush 60, 35)] : List (Nat × Instr × Nat)), il_28.lookup e.1 = some e.2 := by decide +kernel
theorem li_28_35 : il_28.lookup 35 = some (.if_icmp .le 6, 38) := by decide +kernel
theorem bo_28_41_4c2c9e : ∀ e ∈ ([(41, .iconst 0, 42), (42, .istore_n 3, 43)] : List (Nat × Instr × Nat)), il_28.lookup e.1 = some e.2 := by decide +kernel
theorem bo_28_38_c8c763 : ∀ e ∈ ([(38, .ldc 56, 40)] : List (Nat × Instr × Nat)), il_28.lookup e.1 = some e.2 := by decide +kernel
theorem li_28_40 : il_28.lookup 40 = some (.ireturn, 41) := by decide +kernel
theorem bo_29_0_264884 : ∀ e ∈ ([(0, .iload_n 0, 1), (1, .iload_n 1, 2)] : List (Nat × Instr × Nat)), il_29.lookup e.1 = some e.2 := by decide +kernel
theorem li_29_2 : il_29.lookup 2 = some (.if_icmp .lt 12, 5) := by decide +kernel
theorem bo_29_14_3e81ce : ∀ e ∈ ([(14, .iconst 0, 15)] : List (Nat × Instr × Nat)), il_29.lookup e.1 = some e.2 := by decide +kernel
theorem li_29_15 : il_29.lookup 15 = some (.ireturn, 16) := by decide +kernel
theorem bo_29_5_ca77c4 : ∀ e ∈ ([(5, .iload_n 0, 6), (6, .iload_n 2, 7)] : List (Nat × Instr × Nat)), il_29.lookup e.1 = some e.2 := by decide +kernel
theorem li_29_7 : il_29.lookup 7 = some (.if_icmp .gt 7, 10) := by decide +kernel
theorem bo_29_10_42a704 : ∀ e ∈ ([(10, .iconst 1, 11), (11, .goto 4, 14)] : List (Nat × Instr × Nat)), il_29.lookup e.1 = some e.2 := by decide +kernel
theorem bo_30_39_9c41c6 : ∀ e ∈ ([(39, .iload_n 3, 40), (40, .iload_n 2, 41)] : List (Nat × Instr × Nat)), il_30.lookup e.1 = some e.2 := by decide +kernel
theorem li_30_41 : il_30.lookup 41 = some (.if_icmp .ge 29, 44) := by decide +kernel
theorem bo_30_70_a81b5d : ∀ e ∈ ([(70, .aload_n 0, 71)] : List (Nat × Instr × Nat)), il_30.lookup e.1 = some e.2 := by decide +kernel
theorem li_30_71 : il_30.lookup 71 = some (.getfield 208, 74) := by decide +kernel
theorem li_30_74 : il_30.lookup 74 = some (.ireturn, 75) := by decide +kernel
theorem bo_30_44_56c0aa : ∀ e ∈ ([(44, .aload_n 0, 45)] : List (Nat × Instr × Nat)), il_30.lookup e.1 = some e.2 := by decide +kernel
theorem li_30_45 : il_30.lookup 45 = some (.getfield 9, 48) := by decide +kernel
theorem bo_30_48_04c55a : ∀ e ∈ ([(48, .aload_n 0, 49)] : List (Nat × Instr × Nat)), il_30.lookup e.1 = some e.2 := by decide +kernel
theorem li_30_49 : il_30.lookup 49 = some (.getfield 208, 52) := by decide +kernel
theorem bo_30_52_118d3f : ∀ e ∈ ([(52, .iload_n 1, 53)] : List (Nat × Instr × Nat)), il_30.lookup e.1 = some e.2 := by decide +kernel
theorem li_30_53 : il_30.lookup 53 = some (.iastore, 54) := by decide +kernel
theorem bo_30_54_a3ab7c : ∀ e ∈ ([(54, .aload_n 0, 55), (55, .dup, 56)] : List (Nat × Instr × Nat)), il_30.lookup e.1 = some e.2 := by decide +kernel
theorem li_30_56 : il_30.lookup 56 = some (.getfield 208, 59) := by decide +kernel
theorem bo_30_59_d0b94e : ∀ e ∈ ([(59, .iconst 1, 60), (60, .iadd, 61)] : List (Nat × Instr × Nat)), il_30.lookup e.1 = some e.2 := by decide +kernel
theorem li_30_61 : il_30.lookup 61 = some (.putfield 208, 64) := by decide +kernel
theorem bo_30_64_f60358 : ∀ e ∈ ([(64, .iinc 3 1, 67), (67, .goto (-28), 70)] : List (Nat × Instr × Nat)), il_30.lookup e.1 = some e.2 := by decide +kernel
theorem bo_30_0_8b3750 : ∀ e ∈ ([(0, .iload_n 1, 1), (1, .iconst 0, 2), (2, .bipush 127, 4)] : List (Nat × Instr × Nat)), il_30.lookup e.1 = some e.2 := by decide +kernel
theorem li_30_4 : il_30.lookup 4 = some (.invokestatic 203, 7) := by decide +kernel
theorem li_30_7 : il_30.lookup 7 = some (.ifCond .eq 13, 10) := by decide +kernel
theorem bo_30_20_baa9a0 : ∀ e ∈ ([(20, .ldc 207, 22)] : List (Nat × Instr × Nat)), il_30.lookup e.1 = some e.2 := by decide +kernel
theorem li_30_22 : il_30.lookup 22 = some (.ireturn, 23) := by decide +kernel
theorem bo_30_10_4b0123 : ∀ e ∈ ([(10, .iload_n 2, 11), (11, .iconst 1, 12), (12, .bipush 60, 14)] : List (Nat × Instr × Nat)), il_30.lookup e.1 = some e.2 := by decide +kernel
theorem li_30_14 : il_30.lookup 14 = some (.invokestatic 203, 17) := by decide +kernel
theorem li_30_17 : il_30.lookup 17 = some (.ifCond .ne 6, 20) := by decide +kernel
theorem bo_30_23_b37e12 : ∀ e ∈ ([(23, .aload_n 0, 24)] : List (Nat × Instr × Nat)), il_30.lookup e.1 = some e.2 := by decide +kernel
theorem li_30_24 : il_30.lookup 24 = some (.getfield 208, 27) := by decide +kernel
theorem bo_30_27_655868 : ∀ e ∈ ([(27, .iload_n 2, 28), (28, .iadd, 29), (29, .bipush 60, 31)] : List (Nat × Instr × Nat)), il_30.lookup e.1 = some e.2 := by decide +kernel
theorem li_30_31 : il_30.lookup 31 = some (.if_icmp .le 6, 34) := by decide +kernel
theorem bo_30_37_b7e9cc : ∀ e ∈ ([(37, .iconst 0, 38), (38, .istore_n 3, 39)] : List (Nat × Instr × Nat)), il_30.lookup e.1 = some e.2 := by decide +kernel
theorem bo_30_34_130638 : ∀ e ∈ ([(34, .ldc 211, 36)] : List (Nat × Instr × Nat)), il_30.lookup e.1 = some e.2 := by decide +kernel
theorem li_30_36 : il_30.lookup 36 = some (.ireturn, 37) := by decide +kernel
theorem bo_31_0_8d5162 : ∀ e ∈ ([(0, .iload_n 0, 1)] : List (Nat × Instr × Nat)), il_31.lookup e.1 = some e.2 := by decide +kernel
theorem li_31_1 : il_31.lookup 1 = some (.ifCond .lt 8, 4) := by decide +kernel
theorem bo_31_4_40e659 : ∀ e ∈ ([(4, .iload_n 0, 5), (5, .iload_n 1, 6)] : List (Nat × Instr × Nat)), il_31.lookup e.1 = some e.2 := by decide +kernel
theorem li_31_6 : il_31.lookup 6 = some (.if_icmp .lt 10, 9) := by decide +kernel
theorem bo_31_16_862b1a : ∀ e ∈ ([(16, .iload_n 0, 17)] : List (Nat × Instr × Nat)), il_31.lookup e.1 = some e.2 := by decide +kernel
theorem li_31_17 : il_31.lookup 17 = some (.ireturn, 18) := by decide +kernel
theorem bo_32_0_8b3750 : ∀ e ∈ ([(0, .iload_n 0, 1), (1, .iload_n 1, 2), (2, .getstatic 1053, 5)] : List (Nat × Instr × Nat)), il_32.lookup e.1 = some e.2 := by decide +kernel
theorem li_32_5 : il_32.lookup 5 = some (.invokestatic 1059, 8) := by decide +kernel
theorem bo_32_8_383530 : ∀ e ∈ ([(8, .pop, 9)] : List (Nat × Instr × Nat)), il_32.lookup e.1 = some e.2 := by decide +kernel
theorem li_32_9 : il_32.lookup 9 = some (.return_, 10) := by decide +kernel
theorem bo_33_0_8d5162 : ∀ e ∈ ([(0, .aload_n 0, 1)] : List (Nat × Instr × Nat)), il_33.lookup e.1 = some e.2 := by decide +kernel
theorem li_33_1 : il_33.lookup 1 = some (.getfield 22, 4) := by decide +kernel
theorem bo_33_4_40e659 : ∀ e ∈ ([(4, .istore_n 2, 5), (5, .aload_n 0, 6)] : List (Nat × Instr × Nat)), il_33.lookup e.1 = some e.2 := by decide +kernel
theorem li_33_6 : il_33.lookup 6 = some (.getfield 15, 9) := by decide +kernel
theorem bo_33_9_16efa2 : ∀ e ∈ ([(9, .astore_n 3, 10), (10, .aload_n 0, 11)] : List (Nat × Instr × Nat)), il_33.lookup e.1 = some e.2 := by decide +kernel
theorem li_33_11 : il_33.lookup 11 = some (.getfield 79, 14) := by decide +kernel
theorem bo_33_14_3e81ce : ∀ e ∈ ([(14, .aload_n 3, 15)] : List (Nat × Instr × Nat)), il_33.lookup e.1 = some e.2 := by decide +kernel
theorem li_33_15 : il_33.lookup 15 = some (.arraylength, 16) := by decide +kernel
theorem bo_33_16_f4f9fa : ∀ e ∈ ([(16, .iload_n 2, 17), (17, .ishr, 18)] : List (Nat × Instr × Nat)), il_33.lookup e.1 = some e.2 := by decide +kernel
theorem li_33_18 : il_33.lookup 18 = some (.invokestatic 138, 21) := by decide +kernel
theorem bo_33_21_67cba4 : ∀ e ∈ ([(21, .istore 4, 23), (23, .iload_n 1, 24), (24, .iload 4, 26)] : List (Nat × Instr × Nat)), il_33.lookup e.1 = some e.2 := by decide +kernel
theorem li_33_26 : il_33.lookup 26 = some (.invokestatic 144, 29) := by decide +kernel
theorem bo_33_29_2d7a5f : ∀ e ∈ ([(29, .iload_n 2, 30)] : List (Nat × Instr × Nat)), il_33.lookup e.1 = some e.2 := by decide +kernel
theorem li_33_30 : il_33.lookup 30 = some (.ifCond .ne 12, 33) := by decide +kernel
theorem bo_33_33_9ed66c : ∀ e ∈ ([(33, .aload_n 3, 34), (34, .iload_n 1, 35)] : List (Nat × Instr × Nat)), il_33.lookup e.1 = some e.2 := by decide +kernel
theorem li_33_35 : il_33.lookup 35 = some (.baload, 36) := by decide +kernel
theorem bo_33_36_7d70ac : ∀ e ∈ ([(36, .sipush 255, 39), (39, .iand, 40), (40, .i2c, 41)] : List (Nat × Instr × Nat)), il_33.lookup e.1 = some e.2 := by decide +kernel
theorem li_33_41 : il_33.lookup 41 = some (.ireturn, 42) := by decide +kernel
theorem bo_34_0_264884 : ∀ e ∈ ([(0, .aload_n 0, 1), (1, .iload_n 1, 2)] : List (Nat × Instr × Nat)), il_34.lookup e.1 = some e.2 := by decide +kernel
theorem li_34_2 : il_34.lookup 2 = some (.invokespecial 329, 5) := by decide +kernel
theorem li_34_5 : il_34.lookup 5 = some (.ireturn, 6) := by decide +kernel
theorem bo_35_0_8d5162 : ∀ e ∈ ([(0, .aload_n 0, 1)] : List (Nat × Instr × Nat)), il_35.lookup e.1 = some e.2 := by decide +kernel
theorem li_35_1 : il_35.lookup 1 = some (.getfield 28, 4) := by decide +kernel
theorem li_35_4 : il_35.lookup 4 = some (.ifCond .lt 17, 7) := by decide +kernel
theorem bo_35_21_13696e : ∀ e ∈ ([(21, .iconst (-1), 22), (22, .goto 14, 25)] : List (Nat × Instr × Nat)), il_35.lookup e.1 = some e.2 := by decide +kernel
theorem li_35_36 : il_35.lookup 36 = some (.ireturn, 37) := by decide +kernel
theorem bo_35_7_9b264f : ∀ e ∈ ([(7, .aload_n 0, 8)] : List (Nat × Instr × Nat)), il_35.lookup e.1 = some e.2 := by decide +kernel
theorem li_35_8 : il_35.lookup 8 = some (.getfield 28, 11) := by decide +kernel
theorem bo_35_11_081257 : ∀ e ∈ ([(11, .aload_n 0, 12)] : List (Nat × Instr × Nat)), il_35.lookup e.1 = some e.2 := by decide +kernel
theorem li_35_12 : il_35.lookup 12 = some (.getfield 24, 15) := by decide +kernel
theorem li_35_15 : il_35.lookup 15 = some (.invokevirtual 52, 18) := by decide +kernel
theorem li_35_18 : il_35.lookup 18 = some (.if_icmp .lt 7, 21) := by decide +kernel
theorem bo_35_25_1858f6 : ∀ e ∈ ([(25, .aload_n 0, 26)] : List (Nat × Instr × Nat)), il_35.lookup e.1 = some e.2 := by decide +kernel
theorem li_35_26 : il_35.lookup 26 = some (.getfield 24, 29) := by decide +kernel
theorem bo_35_29_2d7a5f : ∀ e ∈ ([(29, .aload_n 0, 30)] : List (Nat × Instr × Nat)), il_35.lookup e.1 = some e.2 := by decide +kernel
theorem li_35_30 : il_35.lookup 30 = some (.getfield 28, 33) := by decide +kernel
theorem li_35_33 : il_35.lookup 33 = some (.invokevirtual 57, 36) := by decide +kernel
theorem bo_36_0_30af70 : ∀ e ∈ ([(0, .getstatic 38, 3), (3, .ifCond .eq 14, 6), (6, .aload_n 0, 7), (7, .getfield 15, 10), (10, .ifCond .ne 7, 13), (13, .iconst 1, 14), (14, .goto 4, 17)] : List (Nat × Instr × Nat)), il_36.lookup e.1 = some e.2 := by decide +kernel
theorem li_36_18 : il_36.lookup 18 = some (.ireturn, 19) := by decide +kernel
theorem bo_37_0_78d030 : ∀ e ∈ ([(0, .getstatic 38, 3), (3, .ifCond .eq 10, 6), (6, .aload_n 0, 7), (7, .getfield 15, 10), (10, .goto 4, 13)] : List (Nat × Instr × Nat)), il_37.lookup e.1 = some e.2 := by decide +kernel
theorem li_37_14 : il_37.lookup 14 = some (.ireturn, 15) := by decide +kernel
theorem bo_38_0_2ac4ce : ∀ e ∈ ([(0, .aload_n 0, 1), (1, .getfield 9, 4), (4, .arraylength, 5), (5, .aload_n 0, 6)] : List (Nat × Instr × Nat)), il_38.lookup e.1 = some e.2 := by decide +kernel
theorem li_38_6 : il_38.lookup 6 = some (.invokevirtual 335, 9) := by decide +kernel
theorem bo_38_9_afbef6 : ∀ e ∈ ([(9, .ishr, 10)] : List (Nat × Instr × Nat)), il_38.lookup e.1 = some e.2 := by decide +kernel
theorem li_38_10 : il_38.lookup 10 = some (.ireturn, 11) := by decide +kernel
theorem bo_39_0_8d5162 : ∀ e ∈ ([(0, .iload_n 0, 1)] : List (Nat × Instr × Nat)), il_39.lookup e.1 = some e.2 := by decide +kernel
theorem li_39_1 : il_39.lookup 1 = some (.ifCond .lt 14, 4) := by decide +kernel
theorem bo_39_15_be4250 : ∀ e ∈ ([(15, .iconst 0, 16)] : List (Nat × Instr × Nat)), il_39.lookup e.1 = some e.2 := by decide +kernel
theorem li_39_16 : il_39.lookup 16 = some (.ireturn, 17) := by decide +kernel
theorem bo_39_4_40e659 : ∀ e ∈ ([(4, .iload_n 0, 5), (5, .sipush 255, 8)] : List (Nat × Instr × Nat)), il_39.lookup e.1 = some e.2 := by decide +kernel
theorem li_39_8 : il_39.lookup 8 = some (.if_icmp .gt 7, 11) := by decide +kernel
theorem bo_39_11_274bbd : ∀ e ∈ ([(11, .iconst 1, 12), (12, .goto 4, 15)] : List (Nat × Instr × Nat)), il_39.lookup e.1 = some e.2 := by decide +kernel
theorem bo_40_7_18399d : ∀ e ∈ ([(7, .iload 5, 9), (9, .iload_n 3, 10)] : List (Nat × Instr × Nat)), il_40.lookup e.1 = some e.2 := by decide +kernel
theorem li_40_10 : il_40.lookup 10 = some (.if_icmp .ge 21, 13) := by decide +kernel
theorem bo_40_31_c379e3 : ∀ e ∈ ([(31, .iconst (-1), 32)] : List (Nat × Instr × Nat)), il_40.lookup e.1 = some e.2 := by decide +kernel
theorem li_40_32 : il_40.lookup 32 = some (.ireturn, 33) := by decide +kernel
theorem bo_40_13_1f05a9 : ∀ e ∈ ([(13, .aload_n 0, 14), (14, .iload 5, 16)] : List (Nat × Instr × Nat)), il_40.lookup e.1 = some e.2 := by decide +kernel
theorem li_40_16 : il_40.lookup 16 = some (.baload, 17) := by decide +kernel
theorem bo_40_17_509256 : ∀ e ∈ ([(17, .iload 4, 19)] : List (Nat × Instr × Nat)), il_40.lookup e.1 = some e.2 := by decide +kernel
theorem li_40_19 : il_40.lookup 19 = some (.if_icmp .ne 6, 22) := by decide +kernel
theorem bo_40_25_d3a15d : ∀ e ∈ ([(25, .iinc 5 1, 28), (28, .goto (-21), 31)] : List (Nat × Instr × Nat)), il_40.lookup e.1 = some e.2 := by decide +kernel
theorem bo_40_22_60ac31 : ∀ e ∈ ([(22, .iload 5, 24)] : List (Nat × Instr × Nat)), il_40.lookup e.1 = some e.2 := by decide +kernel
theorem li_40_24 : il_40.lookup 24 = some (.ireturn, 25) := by decide +kernel
theorem bo_40_0_2207cb : ∀ e ∈ ([(0, .iload_n 1, 1), (1, .i2b, 2), (2, .istore 4, 4), (4, .iload_n 2, 5), (5, .istore 5, 7)] : List (Nat × Instr × Nat)), il_40.lookup e.1 = some e.2 := by decide +kernel
theorem bo_41_0_8d5162 : ∀ e ∈ ([(0, .iload_n 1, 1)] : List (Nat × Instr × Nat)), il_41.lookup e.1 = some e.2 := by decide +kernel
theorem li_41_1 : il_41.lookup 1 = some (.invokestatic 88, 4) := by decide +kernel
theorem li_41_4 : il_41.lookup 4 = some (.ifCond .ne 5, 7) := by decide +kernel
theorem bo_41_9_16efa2 : ∀ e ∈ ([(9, .iload_n 2, 10), (10, .iconst 0, 11)] : List (Nat × Instr × Nat)), il_41.lookup e.1 = some e.2 := by decide +kernel
theorem li_41_11 : il_41.lookup 11 = some (.invokestatic 92, 14) := by decide +kernel
theorem bo_41_14_aedc60 : ∀ e ∈ ([(14, .istore_n 2, 15), (15, .iload_n 3, 16), (16, .aload_n 0, 17), (17, .arraylength, 18)] : List (Nat × Instr × Nat)), il_41.lookup e.1 = some e.2 := by decide +kernel
theorem li_41_18 : il_41.lookup 18 = some (.invokestatic 38, 21) := by decide +kernel
theorem bo_41_21_cd309e : ∀ e ∈ ([(21, .istore_n 3, 22), (22, .iload_n 2, 23), (23, .iload_n 3, 24)] : List (Nat × Instr × Nat)), il_41.lookup e.1 = some e.2 := by decide +kernel
theorem li_41_24 : il_41.lookup 24 = some (.if_icmp .lt 5, 27) := by decide +kernel
theorem bo_41_29_aa9272 : ∀ e ∈ ([(29, .aload_n 0, 30), (30, .iload_n 1, 31), (31, .iload_n 2, 32), (32, .iload_n 3, 33)] : List (Nat × Instr × Nat)), il_41.lookup e.1 = some e.2 := by decide +kernel
theorem li_41_33 : il_41.lookup 33 = some (.invokestatic 95, 36) := by decide +kernel
theorem li_41_36 : il_41.lookup 36 = some (.ireturn, 37) := by decide +kernel
theorem bo_41_27_58fada : ∀ e ∈ ([(27, .iconst (-1), 28)] : List (Nat × Instr × Nat)), il_41.lookup e.1 = some e.2 := by decide +kernel
theorem li_41_28 : il_41.lookup 28 = some (.ireturn, 29) := by decide +kernel
theorem bo_41_7_9b264f : ∀ e ∈ ([(7, .iconst (-1), 8)] : List (Nat × Instr × Nat)), il_41.lookup e.1 = some e.2 := by decide +kernel
theorem li_41_8 : il_41.lookup 8 = some (.ireturn, 9) := by decide +kernel
theorem bo_42_0_8d5162 : ∀ e ∈ ([(0, .aload_n 0, 1)] : List (Nat × Instr × Nat)), il_42.lookup e.1 = some e.2 := by decide +kernel
theorem li_42_1 : il_42.lookup 1 = some (.invokevirtual 492, 4) := by decide +kernel
theorem li_42_4 : il_42.lookup 4 = some (.ifCond .eq 19, 7) := by decide +kernel
theorem bo_42_23_25f424 : ∀ e ∈ ([(23, .aload_n 0, 24), (24, .getfield 9, 27), (27, .iload_n 1, 28), (28, .iload_n 2, 29), (29, .aload_n 0, 30)] : List (Nat × Instr × Nat)), il_42.lookup e.1 = some e.2 := by decide +kernel
theorem li_42_30 : il_42.lookup 30 = some (.invokevirtual 505, 33) := by decide +kernel
theorem bo_42_7_8ee799 : ∀ e ∈ ([(7, .aload_n 0, 8), (8, .getfield 9, 11), (11, .iload_n 1, 12), (12, .iload_n 2, 13), (13, .aload_n 0, 14)] : List (Nat × Instr × Nat)), il_42.lookup e.1 = some e.2 := by decide +kernel
theorem li_42_14 : il_42.lookup 14 = some (.invokevirtual 505, 17) := by decide +kernel
theorem li_42_17 : il_42.lookup 17 = some (.invokestatic 637, 20) := by decide +kernel
theorem bo_42_20_baa9a0 : ∀ e ∈ ([(20, .goto 16, 23)] : List (Nat × Instr × Nat)), il_42.lookup e.1 = some e.2 := by decide +kernel
theorem li_42_36 : il_42.lookup 36 = some (.ireturn, 37) := by decide +kernel
theorem bo_43_0_8b3750 : ∀ e ∈ ([(0, .aload_n 0, 1), (1, .iload_n 1, 2), (2, .iconst 0, 3)] : List (Nat × Instr × Nat)), il_43.lookup e.1 = some e.2 := by decide +kernel
theorem li_43_3 : il_43.lookup 3 = some (.invokevirtual 633, 6) := by decide +kernel
theorem li_43_6 : il_43.lookup 6 = some (.ireturn, 7) := by decide +kernel
theorem bo_44_0_8d5162 : ∀ e ∈ ([(0, .iload_n 0, 1)] : List (Nat × Instr × Nat)), il_44.lookup e.1 = some e.2 := by decide +kernel
theorem li_44_1 : il_44.lookup 1 = some (.tableswitch 39 0 4 #[35, 35, 35, 37, 37], 36) := by decide +kernel
theorem bo_44_36_befed3 : ∀ e ∈ ([(36, .iconst 2, 37)] : List (Nat × Instr × Nat)), il_44.lookup e.1 = some e.2 := by decide +kernel
theorem li_44_37 : il_44.lookup 37 = some (.ireturn, 38) := by decide +kernel
theorem bo_44_38_c8c763 : ∀ e ∈ ([(38, .iconst 1, 39)] : List (Nat × Instr × Nat)), il_44.lookup e.1 = some e.2 := by decide +kernel
theorem li_44_39 : il_44.lookup 39 = some (.ireturn, 40) := by decide +kernel
theorem bo_44_40_d0cc5b : ∀ e ∈ ([(40, .iconst 0, 41)] : List (Nat × Instr × Nat)), il_44.lookup e.1 = some e.2 := by decide +kernel
theorem li_44_41 : il_44.lookup 41 = some (.ireturn, 42) := by decide +kernel
theorem bo_45_0_8d5162 : ∀ e ∈ ([(0, .aload_n 0, 1)] : List (Nat × Instr × Nat)), il_45.lookup e.1 = some e.2 := by decide +kernel
theorem li_45_1 : il_45.lookup 1 = some (.invokevirtual 38, 4) := by decide +kernel
theorem bo_45_4_e962e2 : ∀ e ∈ ([(4, .iload_n 1, 5)] : List (Nat × Instr × Nat)), il_45.lookup e.1 = some e.2 := by decide +kernel
theorem li_45_5 : il_45.lookup 5 = some (.if_icmp .eq 5, 8) := by decide +kernel
theorem bo_45_10_42a704 : ∀ e ∈ ([(10, .aload_n 0, 11), (11, .dup, 12)] : List (Nat × Instr × Nat)), il_45.lookup e.1 = some e.2 := by decide +kernel
theorem li_45_12 : il_45.lookup 12 = some (.getfield 28, 15) := by decide +kernel
theorem bo_45_15_d45c32 : ∀ e ∈ ([(15, .iconst 1, 16), (16, .iadd, 17)] : List (Nat × Instr × Nat)), il_45.lookup e.1 = some e.2 := by decide +kernel
theorem li_45_17 : il_45.lookup 17 = some (.putfield 28, 20) := by decide +kernel
theorem bo_45_20_baa9a0 : ∀ e ∈ ([(20, .iconst 1, 21)] : List (Nat × Instr × Nat)), il_45.lookup e.1 = some e.2 := by decide +kernel
theorem li_45_21 : il_45.lookup 21 = some (.ireturn, 22) := by decide +kernel
theorem bo_45_8_383530 : ∀ e ∈ ([(8, .iconst 0, 9)] : List (Nat × Instr × Nat)), il_45.lookup e.1 = some e.2 := by decide +kernel
theorem li_45_9 : il_45.lookup 9 = some (.ireturn, 10) := by decide +kernel
theorem bo_46_0_8d5162 : ∀ e ∈ ([(0, .aload_n 0, 1)] : List (Nat × Instr × Nat)), il_46.lookup e.1 = some e.2 := by decide +kernel
theorem li_46_1 : il_46.lookup 1 = some (.invokevirtual 38, 4) := by decide +kernel
theorem bo_46_4_e962e2 : ∀ e ∈ ([(4, .bipush 48, 6)] : List (Nat × Instr × Nat)), il_46.lookup e.1 = some e.2 := by decide +kernel
theorem li_46_6 : il_46.lookup 6 = some (.if_icmp .lt 16, 9) := by decide +kernel
theorem bo_46_22_60ac31 : ∀ e ∈ ([(22, .iconst 0, 23)] : List (Nat × Instr × Nat)), il_46.lookup e.1 = some e.2 := by decide +kernel
theorem li_46_23 : il_46.lookup 23 = some (.ireturn, 24) := by decide +kernel
theorem bo_46_9_afbef6 : ∀ e ∈ ([(9, .aload_n 0, 10)] : List (Nat × Instr × Nat)), il_46.lookup e.1 = some e.2 := by decide +kernel
theorem li_46_10 : il_46.lookup 10 = some (.invokevirtual 38, 13) := by decide +kernel
theorem bo_46_13_15f019 : ∀ e ∈ ([(13, .bipush 57, 15)] : List (Nat × Instr × Nat)), il_46.lookup e.1 = some e.2 := by decide +kernel
theorem li_46_15 : il_46.lookup 15 = some (.if_icmp .gt 7, 18) := by decide +kernel
theorem bo_46_18_d268ac : ∀ e ∈ ([(18, .iconst 1, 19), (19, .goto 4, 22)] : List (Nat × Instr × Nat)), il_46.lookup e.1 = some e.2 := by decide +kernel
theorem bo_47_73_555da0 : ∀ e ∈ ([(73, .iload_n 1, 74)] : List (Nat × Instr × Nat)), il_47.lookup e.1 = some e.2 := by decide +kernel
theorem li_47_74 : il_47.lookup 74 = some (.ifCond .eq 12, 77) := by decide +kernel
theorem bo_47_86_bff005 : ∀ e ∈ ([(86, .iconst 1, 87)] : List (Nat × Instr × Nat)), il_47.lookup e.1 = some e.2 := by decide +kernel
theorem li_47_87 : il_47.lookup 87 = some (.ireturn, 88) := by decide +kernel
theorem bo_47_77_3949c1 : ∀ e ∈ ([(77, .aload_n 0, 78), (78, .aload_n 0, 79)] : List (Nat × Instr × Nat)), il_47.lookup e.1 = some e.2 := by decide +kernel
theorem li_47_79 : il_47.lookup 79 = some (.getfield 86, 82) := by decide +kernel
theorem bo_47_82_d3719d : ∀ e ∈ ([(82, .ineg, 83)] : List (Nat × Instr × Nat)), il_47.lookup e.1 = some e.2 := by decide +kernel
theorem li_47_83 : il_47.lookup 83 = some (.putfield 86, 86) := by decide +kernel
theorem bo_47_0_264884 : ∀ e ∈ ([(0, .aload_n 0, 1), (1, .bipush 45, 3)] : List (Nat × Instr × Nat)), il_47.lookup e.1 = some e.2 := by decide +kernel
theorem li_47_3 : il_47.lookup 3 = some (.invokevirtual 76, 6) := by decide +kernel
theorem bo_47_6_e618ed : ∀ e ∈ ([(6, .istore_n 1, 7), (7, .aload_n 0, 8)] : List (Nat × Instr × Nat)), il_47.lookup e.1 = some e.2 := by decide +kernel
theorem li_47_8 : il_47.lookup 8 = some (.invokevirtual 89, 11) := by decide +kernel
theorem li_47_11 : il_47.lookup 11 = some (.ifCond .ne 5, 14) := by decide +kernel
theorem bo_47_16_f4f9fa : ∀ e ∈ ([(16, .aload_n 0, 17), (17, .aload_n 0, 18)] : List (Nat × Instr × Nat)), il_47.lookup e.1 = some e.2 := by decide +kernel
theorem li_47_18 : il_47.lookup 18 = some (.invokevirtual 38, 21) := by decide +kernel
theorem bo_47_21_22a4b3 : ∀ e ∈ ([(21, .bipush 48, 23), (23, .isub, 24)] : List (Nat × Instr × Nat)), il_47.lookup e.1 = some e.2 := by decide +kernel
theorem li_47_24 : il_47.lookup 24 = some (.putfield 86, 27) := by decide +kernel
theorem bo_47_27_fe3fdb : ∀ e ∈ ([(27, .aload_n 0, 28), (28, .dup, 29)] : List (Nat × Instr × Nat)), il_47.lookup e.1 = some e.2 := by decide +kernel
theorem li_47_29 : il_47.lookup 29 = some (.getfield 28, 32) := by decide +kernel
theorem bo_47_32_dac25e : ∀ e ∈ ([(32, .iconst 1, 33), (33, .iadd, 34)] : List (Nat × Instr × Nat)), il_47.lookup e.1 = some e.2 := by decide +kernel
theorem li_47_34 : il_47.lookup 34 = some (.putfield 28, 37) := by decide +kernel
theorem bo_47_37_a21c9f : ∀ e ∈ ([(37, .aload_n 0, 38)] : List (Nat × Instr × Nat)), il_47.lookup e.1 = some e.2 := by decide +kernel
theorem li_47_38 : il_47.lookup 38 = some (.invokevirtual 89, 41) := by decide +kernel
theorem li_47_41 : il_47.lookup 41 = some (.ifCond .eq 32, 44) := by decide +kernel
theorem bo_47_44_e175ea : ∀ e ∈ ([(44, .aload_n 0, 45), (45, .aload_n 0, 46)] : List (Nat × Instr × Nat)), il_47.lookup e.1 = some e.2 := by decide +kernel
theorem li_47_46 : il_47.lookup 46 = some (.getfield 86, 49) := by decide +kernel
theorem bo_47_49_fae446 : ∀ e ∈ ([(49, .bipush 10, 51), (51, .imul, 52), (52, .aload_n 0, 53)] : List (Nat × Instr × Nat)), il_47.lookup e.1 = some e.2 := by decide +kernel
theorem li_47_53 : il_47.lookup 53 = some (.invokevirtual 38, 56) := by decide +kernel
theorem bo_47_56_4a6e8d : ∀ e ∈ ([(56, .iadd, 57), (57, .bipush 48, 59), (59, .isub, 60)] : List (Nat × Instr × Nat)), il_47.lookup e.1 = some e.2 := by decide +kernel
theorem li_47_60 : il_47.lookup 60 = some (.putfield 86, 63) := by decide +kernel
theorem bo_47_63_92b333 : ∀ e ∈ ([(63, .aload_n 0, 64), (64, .dup, 65)] : List (Nat × Instr × Nat)), il_47.lookup e.1 = some e.2 := by decide +kernel
theorem li_47_65 : il_47.lookup 65 = some (.getfield 28, 68) := by decide +kernel
theorem bo_47_68_702533 : ∀ e ∈ ([(68, .iconst 1, 69), (69, .iadd, 70)] : List (Nat × Instr × Nat)), il_47.lookup e.1 = some e.2 := by decide +kernel
theorem li_47_70 : il_47.lookup 70 = some (.putfield 28, 73) := by decide +kernel
theorem bo_47_14_3e81ce : ∀ e ∈ ([(14, .iconst 0, 15)] : List (Nat × Instr × Nat)), il_47.lookup e.1 = some e.2 := by decide +kernel
theorem li_47_15 : il_47.lookup 15 = some (.ireturn, 16) := by decide +kernel
theorem bo_48_0_8d5162 : ∀ e ∈ ([(0, .iload_n 1, 1)] : List (Nat × Instr × Nat)), il_48.lookup e.1 = some e.2 := by decide +kernel
theorem li_48_1 : il_48.lookup 1 = some (.tableswitch 95 1 4 #[31, 95, 52, 73], 32) := by decide +kernel
theorem bo_48_32_191034 : ∀ e ∈ ([(32, .aload_n 0, 33)] : List (Nat × Instr × Nat)), il_48.lookup e.1 = some e.2 := by decide +kernel
theorem li_48_33 : il_48.lookup 33 = some (.getfield 86, 36) := by decide +kernel
theorem li_48_36 : il_48.lookup 36 = some (.ifCond .lt 15, 39) := by decide +kernel
theorem bo_48_51_93c172 : ∀ e ∈ ([(51, .iconst 0, 52)] : List (Nat × Instr × Nat)), il_48.lookup e.1 = some e.2 := by decide +kernel
theorem li_48_52 : il_48.lookup 52 = some (.ireturn, 53) := by decide +kernel
theorem bo_48_39_4dcc25 : ∀ e ∈ ([(39, .aload_n 0, 40)] : List (Nat × Instr × Nat)), il_48.lookup e.1 = some e.2 := by decide +kernel
theorem li_48_40 : il_48.lookup 40 = some (.getfield 86, 43) := by decide +kernel
theorem bo_48_43_d85b47 : ∀ e ∈ ([(43, .iconst 2, 44)] : List (Nat × Instr × Nat)), il_48.lookup e.1 = some e.2 := by decide +kernel
theorem li_48_44 : il_48.lookup 44 = some (.if_icmp .gt 7, 47) := by decide +kernel
theorem bo_48_47_400428 : ∀ e ∈ ([(47, .iconst 1, 48), (48, .goto 4, 51)] : List (Nat × Instr × Nat)), il_48.lookup e.1 = some e.2 := by decide +kernel
theorem bo_48_96_2375ef : ∀ e ∈ ([(96, .iconst 1, 97)] : List (Nat × Instr × Nat)), il_48.lookup e.1 = some e.2 := by decide +kernel
theorem li_48_97 : il_48.lookup 97 = some (.ireturn, 98) := by decide +kernel
theorem bo_48_53_a422c0 : ∀ e ∈ ([(53, .aload_n 0, 54)] : List (Nat × Instr × Nat)), il_48.lookup e.1 = some e.2 := by decide +kernel
theorem li_48_54 : il_48.lookup 54 = some (.getfield 86, 57) := by decide +kernel
theorem li_48_57 : il_48.lookup 57 = some (.ifCond .lt 15, 60) := by decide +kernel
theorem bo_48_72_c0ffc8 : ∀ e ∈ ([(72, .iconst 0, 73)] : List (Nat × Instr × Nat)), il_48.lookup e.1 = some e.2 := by decide +kernel
theorem li_48_73 : il_48.lookup 73 = some (.ireturn, 74) := by decide +kernel
theorem bo_48_60_1be089 : ∀ e ∈ ([(60, .aload_n 0, 61)] : List (Nat × Instr × Nat)), il_48.lookup e.1 = some e.2 := by decide +kernel
theorem li_48_61 : il_48.lookup 61 = some (.getfield 86, 64) := by decide +kernel
theorem bo_48_64_446f01 : ∀ e ∈ ([(64, .iconst 3, 65)] : List (Nat × Instr × Nat)), il_48.lookup e.1 = some e.2 := by decide +kernel
theorem li_48_65 : il_48.lookup 65 = some (.if_icmp .gt 7, 68) := by decide +kernel
theorem bo_48_68_702533 : ∀ e ∈ ([(68, .iconst 1, 69), (69, .goto 4, 72)] : List (Nat × Instr × Nat)), il_48.lookup e.1 = some e.2 := by decide +kernel
theorem bo_48_74_ac6591 : ∀ e ∈ ([(74, .aload_n 0, 75)] : List (Nat × Instr × Nat)), il_48.lookup e.1 = some e.2 := by decide +kernel
theorem li_48_75 : il_48.lookup 75 = some (.getfield 86, 78) := by decide +kernel
theorem bo_48_78_ade702 : ∀ e ∈ ([(78, .iconst 1, 79)] : List (Nat × Instr × Nat)), il_48.lookup e.1 = some e.2 := by decide +kernel
theorem li_48_79 : il_48.lookup 79 = some (.if_icmp .lt 15, 82) := by decide +kernel
theorem bo_48_94_6615ab : ∀ e ∈ ([(94, .iconst 0, 95)] : List (Nat × Instr × Nat)), il_48.lookup e.1 = some e.2 := by decide +kernel
theorem li_48_95 : il_48.lookup 95 = some (.ireturn, 96) := by decide +kernel
theorem bo_48_82_d3719d : ∀ e ∈ ([(82, .aload_n 0, 83)] : List (Nat × Instr × Nat)), il_48.lookup e.1 = some e.2 := by decide +kernel
theorem li_48_83 : il_48.lookup 83 = some (.getfield 86, 86) := by decide +kernel
theorem bo_48_86_bff005 : ∀ e ∈ ([(86, .iconst 5, 87)] : List (Nat × Instr × Nat)), il_48.lookup e.1 = some e.2 := by decide +kernel
theorem li_48_87 : il_48.lookup 87 = some (.if_icmp .gt 7, 90) := by decide +kernel
theorem bo_48_90_180c4e : ∀ e ∈ ([(90, .iconst 1, 91), (91, .goto 4, 94)] : List (Nat × Instr × Nat)), il_48.lookup e.1 = some e.2 := by decide +kernel
theorem bo_49_0_8d5162 : ∀ e ∈ ([(0, .aload_n 0, 1)] : List (Nat × Instr × Nat)), il_49.lookup e.1 = some e.2 := by decide +kernel
theorem li_49_1 : il_49.lookup 1 = some (.invokevirtual 38, 4) := by decide +kernel
theorem bo_49_4_e962e2 : ∀ e ∈ ([(4, .bipush 49, 6)] : List (Nat × Instr × Nat)), il_49.lookup e.1 = some e.2 := by decide +kernel
theorem li_49_6 : il_49.lookup 6 = some (.if_icmp .lt 16, 9) := by decide +kernel
theorem bo_49_22_60ac31 : ∀ e ∈ ([(22, .iconst 0, 23)] : List (Nat × Instr × Nat)), il_49.lookup e.1 = some e.2 := by decide +kernel
theorem li_49_23 : il_49.lookup 23 = some (.ireturn, 24) := by decide +kernel
theorem bo_49_9_afbef6 : ∀ e ∈ ([(9, .aload_n 0, 10)] : List (Nat × Instr × Nat)), il_49.lookup e.1 = some e.2 := by decide +kernel
theorem li_49_10 : il_49.lookup 10 = some (.invokevirtual 38, 13) := by decide +kernel
theorem bo_49_13_15f019 : ∀ e ∈ ([(13, .bipush 51, 15)] : List (Nat × Instr × Nat)), il_49.lookup e.1 = some e.2 := by decide +kernel
theorem li_49_15 : il_49.lookup 15 = some (.if_icmp .gt 7, 18) := by decide +kernel
theorem bo_49_18_d268ac : ∀ e ∈ ([(18, .iconst 1, 19), (19, .goto 4, 22)] : List (Nat × Instr × Nat)), il_49.lookup e.1 = some e.2 := by decide +kernel
theorem bo_50_0_8d5162 : ∀ e ∈ ([(0, .aload_n 0, 1)] : List (Nat × Instr × Nat)), il_50.lookup e.1 = some e.2 := by decide +kernel
theorem li_50_1 : il_50.lookup 1 = some (.invokevirtual 46, 4) := by decide +kernel
theorem li_50_4 : il_50.lookup 4 = some (.ifCond .ne 5, 7) := by decide +kernel
theorem bo_50_9_afbef6 : ∀ e ∈ ([(9, .aload_n 0, 10)] : List (Nat × Instr × Nat)), il_50.lookup e.1 = some e.2 := by decide +kernel
theorem li_50_10 : il_50.lookup 10 = some (.invokevirtual 38, 13) := by decide +kernel
theorem bo_50_13_d2d472 : ∀ e ∈ ([(13, .bipush 48, 15), (15, .isub, 16), (16, .istore_n 1, 17), (17, .aload_n 0, 18), (18, .dup, 19)] : List (Nat × Instr × Nat)), il_50.lookup e.1 = some e.2 := by decide +kernel
theorem li_50_19 : il_50.lookup 19 = some (.getfield 28, 22) := by decide +kernel
theorem bo_50_22_13b32e : ∀ e ∈ ([(22, .iconst 1, 23), (23, .iadd, 24)] : List (Nat × Instr × Nat)), il_50.lookup e.1 = some e.2 := by decide +kernel
theorem li_50_24 : il_50.lookup 24 = some (.putfield 28, 27) := by decide +kernel
theorem bo_50_27_58fada : ∀ e ∈ ([(27, .iload_n 1, 28)] : List (Nat × Instr × Nat)), il_50.lookup e.1 = some e.2 := by decide +kernel
theorem li_50_28 : il_50.lookup 28 = some (.ireturn, 29) := by decide +kernel
theorem bo_50_7_9b264f : ∀ e ∈ ([(7, .iconst 1, 8)] : List (Nat × Instr × Nat)), il_50.lookup e.1 = some e.2 := by decide +kernel
theorem li_50_8 : il_50.lookup 8 = some (.ireturn, 9) := by decide +kernel
theorem bo_51_159_7b270d : ∀ e ∈ ([(159, .aload_n 0, 160)] : List (Nat × Instr × Nat)), il_51.lookup e.1 = some e.2 := by decide +kernel
theorem li_51_160 : il_51.lookup 160 = some (.getfield 21, 163) := by decide +kernel
theorem bo_51_163_3f0510 : ∀ e ∈ ([(163, .iload_n 1, 164), (164, .aload_n 0, 165)] : List (Nat × Instr × Nat)), il_51.lookup e.1 = some e.2 := by decide +kernel
theorem li_51_165 : il_51.lookup 165 = some (.invokevirtual 49, 168) := by decide +kernel
theorem li_51_168 : il_51.lookup 168 = some (.iastore, 169) := by decide +kernel
theorem bo_51_169_66a7ab : ∀ e ∈ ([(169, .iconst 1, 170)] : List (Nat × Instr × Nat)), il_51.lookup e.1 = some e.2 := by decide +kernel
theorem li_51_170 : il_51.lookup 170 = some (.ireturn, 171) := by decide +kernel
theorem bo_51_148_7ae2ea : ∀ e ∈ ([(148, .aload_n 0, 149), (149, .bipush 41, 151)] : List (Nat × Instr × Nat)), il_51.lookup e.1 = some e.2 := by decide +kernel
theorem li_51_151 : il_51.lookup 151 = some (.invokevirtual 76, 154) := by decide +kernel
theorem li_51_154 : il_51.lookup 154 = some (.ifCond .ne 5, 157) := by decide +kernel
theorem bo_51_157_f223cb : ∀ e ∈ ([(157, .iconst 0, 158)] : List (Nat × Instr × Nat)), il_51.lookup e.1 = some e.2 := by decide +kernel
theorem li_51_158 : il_51.lookup 158 = some (.ireturn, 159) := by decide +kernel
theorem bo_51_20_aa2fda : ∀ e ∈ ([(20, .istore_n 3, 21), (21, .iload_n 3, 22)] : List (Nat × Instr × Nat)), il_51.lookup e.1 = some e.2 := by decide +kernel
theorem li_51_22 : il_51.lookup 22 = some (.ifCond .lt 12, 25) := by decide +kernel
theorem bo_51_34_130638 : ∀ e ∈ ([(34, .iconst 0, 35)] : List (Nat × Instr × Nat)), il_51.lookup e.1 = some e.2 := by decide +kernel
theorem li_51_35 : il_51.lookup 35 = some (.ireturn, 36) := by decide +kernel
theorem bo_51_25_1858f6 : ∀ e ∈ ([(25, .iload_n 1, 26)] : List (Nat × Instr × Nat)), il_51.lookup e.1 = some e.2 := by decide +kernel
theorem li_51_26 : il_51.lookup 26 = some (.ifCond .lt 8, 29) := by decide +kernel
theorem bo_51_29_2746c1 : ∀ e ∈ ([(29, .iload_n 1, 30), (30, .iconst 4, 31)] : List (Nat × Instr × Nat)), il_51.lookup e.1 = some e.2 := by decide +kernel
theorem li_51_31 : il_51.lookup 31 = some (.if_icmp .lt 5, 34) := by decide +kernel
theorem bo_51_36_285c9e : ∀ e ∈ ([(36, .aload_n 0, 37), (37, .dup, 38)] : List (Nat × Instr × Nat)), il_51.lookup e.1 = some e.2 := by decide +kernel
theorem li_51_38 : il_51.lookup 38 = some (.getfield 28, 41) := by decide +kernel
theorem bo_51_41_4c2c9e : ∀ e ∈ ([(41, .iconst 1, 42), (42, .iadd, 43)] : List (Nat × Instr × Nat)), il_51.lookup e.1 = some e.2 := by decide +kernel
theorem li_51_43 : il_51.lookup 43 = some (.putfield 28, 46) := by decide +kernel
theorem bo_51_46_4b02d4 : ∀ e ∈ ([(46, .aload_n 0, 47)] : List (Nat × Instr × Nat)), il_51.lookup e.1 = some e.2 := by decide +kernel
theorem li_51_47 : il_51.lookup 47 = some (.getfield 9, 50) := by decide +kernel
theorem bo_51_50_b22ebb : ∀ e ∈ ([(50, .iload_n 1, 51), (51, .iload_n 3, 52)] : List (Nat × Instr × Nat)), il_51.lookup e.1 = some e.2 := by decide +kernel
theorem li_51_52 : il_51.lookup 52 = some (.iastore, 53) := by decide +kernel
theorem bo_51_53_a422c0 : ∀ e ∈ ([(53, .aload_n 0, 54)] : List (Nat × Instr × Nat)), il_51.lookup e.1 = some e.2 := by decide +kernel
theorem li_51_54 : il_51.lookup 54 = some (.getfield 15, 57) := by decide +kernel
theorem bo_51_57_1292c4 : ∀ e ∈ ([(57, .iload_n 1, 58), (58, .iconst 0, 59)] : List (Nat × Instr × Nat)), il_51.lookup e.1 = some e.2 := by decide +kernel
theorem li_51_59 : il_51.lookup 59 = some (.iastore, 60) := by decide +kernel
theorem bo_51_60_1be089 : ∀ e ∈ ([(60, .aload_n 0, 61)] : List (Nat × Instr × Nat)), il_51.lookup e.1 = some e.2 := by decide +kernel
theorem li_51_61 : il_51.lookup 61 = some (.getfield 18, 64) := by decide +kernel
theorem bo_51_64_23d05d : ∀ e ∈ ([(64, .iload_n 1, 65), (65, .iconst 0, 66)] : List (Nat × Instr × Nat)), il_51.lookup e.1 = some e.2 := by decide +kernel
theorem li_51_66 : il_51.lookup 66 = some (.iastore, 67) := by decide +kernel
theorem bo_51_67_ded3a4 : ∀ e ∈ ([(67, .iload_n 3, 68)] : List (Nat × Instr × Nat)), il_51.lookup e.1 = some e.2 := by decide +kernel
theorem li_51_68 : il_51.lookup 68 = some (.invokestatic 73, 71) := by decide +kernel
theorem bo_51_71_9c239e : ∀ e ∈ ([(71, .istore 4, 73), (73, .iload 4, 75)] : List (Nat × Instr × Nat)), il_51.lookup e.1 = some e.2 := by decide +kernel
theorem li_51_75 : il_51.lookup 75 = some (.ifCond .le 84, 78) := by decide +kernel
theorem bo_51_78_32a02f : ∀ e ∈ ([(78, .aload_n 0, 79), (79, .bipush 40, 81)] : List (Nat × Instr × Nat)), il_51.lookup e.1 = some e.2 := by decide +kernel
theorem li_51_81 : il_51.lookup 81 = some (.invokevirtual 76, 84) := by decide +kernel
theorem li_51_84 : il_51.lookup 84 = some (.ifCond .eq 18, 87) := by decide +kernel
theorem bo_51_102_097908 : ∀ e ∈ ([(102, .iconst 0, 103)] : List (Nat × Instr × Nat)), il_51.lookup e.1 = some e.2 := by decide +kernel
theorem li_51_103 : il_51.lookup 103 = some (.ireturn, 104) := by decide +kernel
theorem bo_51_87_816bca : ∀ e ∈ ([(87, .aload_n 0, 88)] : List (Nat × Instr × Nat)), il_51.lookup e.1 = some e.2 := by decide +kernel
theorem li_51_88 : il_51.lookup 88 = some (.invokevirtual 80, 91) := by decide +kernel
theorem li_51_91 : il_51.lookup 91 = some (.ifCond .eq 11, 94) := by decide +kernel
theorem bo_51_94_77bae3 : ∀ e ∈ ([(94, .aload_n 0, 95), (95, .iload_n 3, 96)] : List (Nat × Instr × Nat)), il_51.lookup e.1 = some e.2 := by decide +kernel
theorem li_51_96 : il_51.lookup 96 = some (.invokevirtual 83, 99) := by decide +kernel
theorem li_51_99 : il_51.lookup 99 = some (.ifCond .ne 5, 102) := by decide +kernel
theorem bo_51_104_a38d21 : ∀ e ∈ ([(104, .aload_n 0, 105)] : List (Nat × Instr × Nat)), il_51.lookup e.1 = some e.2 := by decide +kernel
theorem li_51_105 : il_51.lookup 105 = some (.getfield 15, 108) := by decide +kernel
theorem bo_51_108_15ff6a : ∀ e ∈ ([(108, .iload_n 1, 109), (109, .aload_n 0, 110)] : List (Nat × Instr × Nat)), il_51.lookup e.1 = some e.2 := by decide +kernel
theorem li_51_110 : il_51.lookup 110 = some (.getfield 86, 113) := by decide +kernel
theorem li_51_113 : il_51.lookup 113 = some (.iastore, 114) := by decide +kernel
theorem bo_51_114_b1d5f4 : ∀ e ∈ ([(114, .iload 4, 116), (116, .iconst 1, 117)] : List (Nat × Instr × Nat)), il_51.lookup e.1 = some e.2 := by decide +kernel
theorem li_51_117 : il_51.lookup 117 = some (.if_icmp .le 31, 120) := by decide +kernel
theorem bo_51_120_572ad1 : ∀ e ∈ ([(120, .aload_n 0, 121), (121, .bipush 44, 123)] : List (Nat × Instr × Nat)), il_51.lookup e.1 = some e.2 := by decide +kernel
theorem li_51_123 : il_51.lookup 123 = some (.invokevirtual 76, 126) := by decide +kernel
theorem li_51_126 : il_51.lookup 126 = some (.ifCond .eq 10, 129) := by decide +kernel
theorem bo_51_136_a8def9 : ∀ e ∈ ([(136, .iconst 0, 137)] : List (Nat × Instr × Nat)), il_51.lookup e.1 = some e.2 := by decide +kernel
theorem li_51_137 : il_51.lookup 137 = some (.ireturn, 138) := by decide +kernel
theorem bo_51_129_624512 : ∀ e ∈ ([(129, .aload_n 0, 130)] : List (Nat × Instr × Nat)), il_51.lookup e.1 = some e.2 := by decide +kernel
theorem li_51_130 : il_51.lookup 130 = some (.invokevirtual 80, 133) := by decide +kernel
theorem li_51_133 : il_51.lookup 133 = some (.ifCond .ne 5, 136) := by decide +kernel
theorem bo_51_138_dc044b : ∀ e ∈ ([(138, .aload_n 0, 139)] : List (Nat × Instr × Nat)), il_51.lookup e.1 = some e.2 := by decide +kernel
theorem li_51_139 : il_51.lookup 139 = some (.getfield 18, 142) := by decide +kernel
theorem bo_51_142_6f3fc7 : ∀ e ∈ ([(142, .iload_n 1, 143), (143, .aload_n 0, 144)] : List (Nat × Instr × Nat)), il_51.lookup e.1 = some e.2 := by decide +kernel
theorem li_51_144 : il_51.lookup 144 = some (.getfield 86, 147) := by decide +kernel
theorem li_51_147 : il_51.lookup 147 = some (.iastore, 148) := by decide +kernel
theorem bo_51_0_8d5162 : ∀ e ∈ ([(0, .aload_n 0, 1)] : List (Nat × Instr × Nat)), il_51.lookup e.1 = some e.2 := by decide +kernel
theorem li_51_1 : il_51.lookup 1 = some (.invokevirtual 38, 4) := by decide +kernel
theorem bo_51_4_40e659 : ∀ e ∈ ([(4, .istore_n 2, 5), (5, .iload_n 2, 6)] : List (Nat × Instr × Nat)), il_51.lookup e.1 = some e.2 := by decide +kernel
theorem li_51_6 : il_51.lookup 6 = some (.ifCond .ge 7, 9) := by decide +kernel
theorem bo_51_13_1b0b55 : ∀ e ∈ ([(13, .ldc 65, 15), (15, .iload_n 2, 16), (16, .i2c, 17)] : List (Nat × Instr × Nat)), il_51.lookup e.1 = some e.2 := by decide +kernel
theorem li_51_17 : il_51.lookup 17 = some (.invokevirtual 67, 20) := by decide +kernel
theorem bo_51_9_16efa2 : ∀ e ∈ ([(9, .iconst (-1), 10), (10, .goto 10, 13)] : List (Nat × Instr × Nat)), il_51.lookup e.1 = some e.2 := by decide +kernel
theorem bo_52_32_dac25e : ∀ e ∈ ([(32, .aload_n 0, 33), (33, .iload_n 1, 34)] : List (Nat × Instr × Nat)), il_52.lookup e.1 = some e.2 := by decide +kernel
theorem li_52_34 : il_52.lookup 34 = some (.invokevirtual 61, 37) := by decide +kernel
theorem li_52_37 : il_52.lookup 37 = some (.ifCond .ne 5, 40) := by decide +kernel
theorem bo_52_42_cbdb6b : ∀ e ∈ ([(42, .aload_n 0, 43), (43, .iload_n 1, 44), (44, .iconst 1, 45), (45, .iadd, 46)] : List (Nat × Instr × Nat)), il_52.lookup e.1 = some e.2 := by decide +kernel
theorem li_52_46 : il_52.lookup 46 = some (.putfield 32, 49) := by decide +kernel
theorem bo_52_49_32e12e : ∀ e ∈ ([(49, .iinc 1 1, 52), (52, .goto (-50), 55)] : List (Nat × Instr × Nat)), il_52.lookup e.1 = some e.2 := by decide +kernel
theorem bo_52_40_d0cc5b : ∀ e ∈ ([(40, .iconst 0, 41)] : List (Nat × Instr × Nat)), il_52.lookup e.1 = some e.2 := by decide +kernel
theorem li_52_41 : il_52.lookup 41 = some (.ireturn, 42) := by decide +kernel
theorem bo_52_2_d916f9 : ∀ e ∈ ([(2, .iload_n 1, 3), (3, .iconst 4, 4)] : List (Nat × Instr × Nat)), il_52.lookup e.1 = some e.2 := by decide +kernel
theorem li_52_4 : il_52.lookup 4 = some (.if_icmp .ge 51, 7) := by decide +kernel
theorem bo_52_55_bd1207 : ∀ e ∈ ([(55, .iconst 1, 56)] : List (Nat × Instr × Nat)), il_52.lookup e.1 = some e.2 := by decide +kernel
theorem li_52_56 : il_52.lookup 56 = some (.ireturn, 57) := by decide +kernel
theorem bo_52_7_9b264f : ∀ e ∈ ([(7, .iload_n 1, 8)] : List (Nat × Instr × Nat)), il_52.lookup e.1 = some e.2 := by decide +kernel
theorem li_52_8 : il_52.lookup 8 = some (.ifCond .le 24, 11) := by decide +kernel
theorem bo_52_11_081257 : ∀ e ∈ ([(11, .aload_n 0, 12)] : List (Nat × Instr × Nat)), il_52.lookup e.1 = some e.2 := by decide +kernel
theorem li_52_12 : il_52.lookup 12 = some (.invokevirtual 38, 15) := by decide +kernel
theorem bo_52_15_be4250 : ∀ e ∈ ([(15, .bipush 124, 17)] : List (Nat × Instr × Nat)), il_52.lookup e.1 = some e.2 := by decide +kernel
theorem li_52_17 : il_52.lookup 17 = some (.if_icmp .eq 5, 20) := by decide +kernel
theorem bo_52_22_13b32e : ∀ e ∈ ([(22, .aload_n 0, 23), (23, .dup, 24)] : List (Nat × Instr × Nat)), il_52.lookup e.1 = some e.2 := by decide +kernel
theorem li_52_24 : il_52.lookup 24 = some (.getfield 28, 27) := by decide +kernel
theorem bo_52_27_fe3fdb : ∀ e ∈ ([(27, .iconst 1, 28), (28, .iadd, 29)] : List (Nat × Instr × Nat)), il_52.lookup e.1 = some e.2 := by decide +kernel
theorem li_52_29 : il_52.lookup 29 = some (.putfield 28, 32) := by decide +kernel
theorem bo_52_20_baa9a0 : ∀ e ∈ ([(20, .iconst 1, 21)] : List (Nat × Instr × Nat)), il_52.lookup e.1 = some e.2 := by decide +kernel
theorem li_52_21 : il_52.lookup 21 = some (.ireturn, 22) := by decide +kernel
theorem bo_52_0_264884 : ∀ e ∈ ([(0, .iconst 0, 1), (1, .istore_n 1, 2)] : List (Nat × Instr × Nat)), il_52.lookup e.1 = some e.2 := by decide +kernel
theorem bo_53_76_1522cc : ∀ e ∈ ([(76, .aload_n 0, 77)] : List (Nat × Instr × Nat)), il_53.lookup e.1 = some e.2 := by decide +kernel
theorem li_53_77 : il_53.lookup 77 = some (.invokevirtual 38, 80) := by decide +kernel
theorem li_53_80 : il_53.lookup 80 = some (.ifCond .ge 7, 83) := by decide +kernel
theorem bo_53_87_816bca : ∀ e ∈ ([(87, .iconst 0, 88)] : List (Nat × Instr × Nat)), il_53.lookup e.1 = some e.2 := by decide +kernel
theorem li_53_88 : il_53.lookup 88 = some (.ireturn, 89) := by decide +kernel
theorem bo_53_83_ae8d26 : ∀ e ∈ ([(83, .iconst 1, 84), (84, .goto 4, 87)] : List (Nat × Instr × Nat)), il_53.lookup e.1 = some e.2 := by decide +kernel
theorem bo_53_40_d0cc5b : ∀ e ∈ ([(40, .aload_n 0, 41)] : List (Nat × Instr × Nat)), il_53.lookup e.1 = some e.2 := by decide +kernel
theorem li_53_41 : il_53.lookup 41 = some (.invokevirtual 38, 44) := by decide +kernel
theorem bo_53_44_56c0aa : ∀ e ∈ ([(44, .bipush 36, 46)] : List (Nat × Instr × Nat)), il_53.lookup e.1 = some e.2 := by decide +kernel
theorem li_53_46 : il_53.lookup 46 = some (.if_icmp .ne 30, 49) := by decide +kernel
theorem bo_53_49_23be2b : ∀ e ∈ ([(49, .aload_n 0, 50), (50, .dup, 51)] : List (Nat × Instr × Nat)), il_53.lookup e.1 = some e.2 := by decide +kernel
theorem li_53_51 : il_53.lookup 51 = some (.getfield 28, 54) := by decide +kernel
theorem bo_53_54_a3ab7c : ∀ e ∈ ([(54, .iconst 1, 55), (55, .iadd, 56)] : List (Nat × Instr × Nat)), il_53.lookup e.1 = some e.2 := by decide +kernel
theorem li_53_56 : il_53.lookup 56 = some (.putfield 28, 59) := by decide +kernel
theorem bo_53_59_8c3b95 : ∀ e ∈ ([(59, .aload_n 0, 60)] : List (Nat × Instr × Nat)), il_53.lookup e.1 = some e.2 := by decide +kernel
theorem li_53_60 : il_53.lookup 60 = some (.invokevirtual 46, 63) := by decide +kernel
theorem li_53_63 : il_53.lookup 63 = some (.ifCond .ne 5, 66) := by decide +kernel
theorem bo_53_68_702533 : ∀ e ∈ ([(68, .aload_n 0, 69), (69, .aload_n 0, 70)] : List (Nat × Instr × Nat)), il_53.lookup e.1 = some e.2 := by decide +kernel
theorem li_53_70 : il_53.lookup 70 = some (.invokevirtual 49, 73) := by decide +kernel
theorem li_53_73 : il_53.lookup 73 = some (.putfield 35, 76) := by decide +kernel
theorem bo_53_66_831ba3 : ∀ e ∈ ([(66, .iconst 0, 67)] : List (Nat × Instr × Nat)), il_53.lookup e.1 = some e.2 := by decide +kernel
theorem li_53_67 : il_53.lookup 67 = some (.ireturn, 68) := by decide +kernel
theorem bo_53_0_264884 : ∀ e ∈ ([(0, .aload_n 0, 1), (1, .iconst 0, 2)] : List (Nat × Instr × Nat)), il_53.lookup e.1 = some e.2 := by decide +kernel
theorem li_53_2 : il_53.lookup 2 = some (.putfield 28, 5) := by decide +kernel
theorem bo_53_5_ca77c4 : ∀ e ∈ ([(5, .aload_n 0, 6), (6, .iconst 0, 7)] : List (Nat × Instr × Nat)), il_53.lookup e.1 = some e.2 := by decide +kernel
theorem li_53_7 : il_53.lookup 7 = some (.putfield 32, 10) := by decide +kernel
theorem bo_53_10_42a704 : ∀ e ∈ ([(10, .aload_n 0, 11), (11, .iconst 1, 12)] : List (Nat × Instr × Nat)), il_53.lookup e.1 = some e.2 := by decide +kernel
theorem li_53_12 : il_53.lookup 12 = some (.putfield 35, 15) := by decide +kernel
theorem bo_53_15_be4250 : ∀ e ∈ ([(15, .aload_n 0, 16)] : List (Nat × Instr × Nat)), il_53.lookup e.1 = some e.2 := by decide +kernel
theorem li_53_16 : il_53.lookup 16 = some (.invokevirtual 38, 19) := by decide +kernel
theorem bo_53_19_1a8444 : ∀ e ∈ ([(19, .bipush 36, 21)] : List (Nat × Instr × Nat)), il_53.lookup e.1 = some e.2 := by decide +kernel
theorem li_53_21 : il_53.lookup 21 = some (.if_icmp .eq 19, 24) := by decide +kernel
theorem bo_53_24_99aa1d : ∀ e ∈ ([(24, .aload_n 0, 25)] : List (Nat × Instr × Nat)), il_53.lookup e.1 = some e.2 := by decide +kernel
theorem li_53_25 : il_53.lookup 25 = some (.invokevirtual 38, 28) := by decide +kernel
theorem li_53_28 : il_53.lookup 28 = some (.ifCond .lt 12, 31) := by decide +kernel
theorem bo_53_31_c379e3 : ∀ e ∈ ([(31, .aload_n 0, 32)] : List (Nat × Instr × Nat)), il_53.lookup e.1 = some e.2 := by decide +kernel
theorem li_53_32 : il_53.lookup 32 = some (.invokevirtual 42, 35) := by decide +kernel
theorem li_53_35 : il_53.lookup 35 = some (.ifCond .ne 5, 38) := by decide +kernel
theorem bo_53_38_c8c763 : ∀ e ∈ ([(38, .iconst 0, 39)] : List (Nat × Instr × Nat)), il_53.lookup e.1 = some e.2 := by decide +kernel
theorem li_53_39 : il_53.lookup 39 = some (.ireturn, 40) := by decide +kernel
theorem bo_54_76_3caaf4 : ∀ e ∈ ([(76, .aload_n 0, 77), (77, .iload_n 1, 78)] : List (Nat × Instr × Nat)), il_54.lookup e.1 = some e.2 := by decide +kernel
theorem li_54_78 : il_54.lookup 78 = some (.putfield 79, 81) := by decide +kernel
theorem li_54_81 : il_54.lookup 81 = some (.return_, 82) := by decide +kernel
theorem bo_54_0_8d5162 : ∀ e ∈ ([(0, .iload_n 1, 1)] : List (Nat × Instr × Nat)), il_54.lookup e.1 = some e.2 := by decide +kernel
theorem li_54_1 : il_54.lookup 1 = some (.ifCond .ge 12, 4) := by decide +kernel
theorem bo_54_13_1f05a9 : ∀ e ∈ ([(13, .aload_n 0, 14), (14, .iload_n 1, 15)] : List (Nat × Instr × Nat)), il_54.lookup e.1 = some e.2 := by decide +kernel
theorem li_54_15 : il_54.lookup 15 = some (.invokevirtual 100, 18) := by decide +kernel
theorem bo_54_18_2b31d8 : ∀ e ∈ ([(18, .aload_n 0, 19)] : List (Nat × Instr × Nat)), il_54.lookup e.1 = some e.2 := by decide +kernel
theorem li_54_19 : il_54.lookup 19 = some (.getfield 79, 22) := by decide +kernel
theorem bo_54_22_60ac31 : ∀ e ∈ ([(22, .iload_n 1, 23)] : List (Nat × Instr × Nat)), il_54.lookup e.1 = some e.2 := by decide +kernel
theorem li_54_23 : il_54.lookup 23 = some (.if_icmp .ge 40, 26) := by decide +kernel
theorem bo_54_63_e22c52 : ∀ e ∈ ([(63, .aload_n 0, 64)] : List (Nat × Instr × Nat)), il_54.lookup e.1 = some e.2 := by decide +kernel
theorem li_54_64 : il_54.lookup 64 = some (.getfield 79, 67) := by decide +kernel
theorem bo_54_67_ded3a4 : ∀ e ∈ ([(67, .iload_n 1, 68)] : List (Nat × Instr × Nat)), il_54.lookup e.1 = some e.2 := by decide +kernel
theorem li_54_68 : il_54.lookup 68 = some (.if_icmp .le 8, 71) := by decide +kernel
theorem bo_54_71_0bf829 : ∀ e ∈ ([(71, .aload_n 0, 72), (72, .iconst 1, 73)] : List (Nat × Instr × Nat)), il_54.lookup e.1 = some e.2 := by decide +kernel
theorem li_54_73 : il_54.lookup 73 = some (.putfield 73, 76) := by decide +kernel
theorem bo_54_26_bd3b31 : ∀ e ∈ ([(26, .aload_n 0, 27)] : List (Nat × Instr × Nat)), il_54.lookup e.1 = some e.2 := by decide +kernel
theorem li_54_27 : il_54.lookup 27 = some (.invokevirtual 83, 30) := by decide +kernel
theorem li_54_30 : il_54.lookup 30 = some (.ifCond .eq 18, 33) := by decide +kernel
theorem bo_54_48_04c55a : ∀ e ∈ ([(48, .aload_n 0, 49)] : List (Nat × Instr × Nat)), il_54.lookup e.1 = some e.2 := by decide +kernel
theorem li_54_49 : il_54.lookup 49 = some (.getfield 15, 52) := by decide +kernel
theorem bo_54_52_118d3f : ∀ e ∈ ([(52, .aload_n 0, 53)] : List (Nat × Instr × Nat)), il_54.lookup e.1 = some e.2 := by decide +kernel
theorem li_54_53 : il_54.lookup 53 = some (.getfield 79, 56) := by decide +kernel
theorem bo_54_33_1dc721 : ∀ e ∈ ([(33, .aload_n 0, 34)] : List (Nat × Instr × Nat)), il_54.lookup e.1 = some e.2 := by decide +kernel
theorem li_54_34 : il_54.lookup 34 = some (.getfield 15, 37) := by decide +kernel
theorem bo_54_37_a21c9f : ∀ e ∈ ([(37, .aload_n 0, 38)] : List (Nat × Instr × Nat)), il_54.lookup e.1 = some e.2 := by decide +kernel
theorem li_54_38 : il_54.lookup 38 = some (.getfield 79, 41) := by decide +kernel
theorem bo_55_0_264884 : ∀ e ∈ ([(0, .aload_n 0, 1), (1, .iload_n 1, 2)] : List (Nat × Instr × Nat)), il_55.lookup e.1 = some e.2 := by decide +kernel
theorem li_55_2 : il_55.lookup 2 = some (.invokespecial 333, 5) := by decide +kernel
theorem li_55_5 : il_55.lookup 5 = some (.return_, 6) := by decide +kernel
theorem bo_56_0_8d5162 : ∀ e ∈ ([(0, .iload_n 1, 1)] : List (Nat × Instr × Nat)), il_56.lookup e.1 = some e.2 := by decide +kernel
theorem li_56_1 : il_56.lookup 1 = some (.ifCond .lt 22, 4) := by decide +kernel
theorem bo_56_23_31ad6f : ∀ e ∈ ([(23, .aconst_null, 24), (24, .goto 9, 27)] : List (Nat × Instr × Nat)), il_56.lookup e.1 = some e.2 := by decide +kernel
theorem li_56_33 : il_56.lookup 33 = some (.areturn, 34) := by decide +kernel
theorem bo_56_4_40e659 : ∀ e ∈ ([(4, .iload_n 1, 5), (5, .aload_n 0, 6)] : List (Nat × Instr × Nat)), il_56.lookup e.1 = some e.2 := by decide +kernel
theorem li_56_6 : il_56.lookup 6 = some (.getfield 50, 9) := by decide +kernel
theorem bo_56_9_16efa2 : ∀ e ∈ ([(9, .iconst 1, 10), (10, .iadd, 11)] : List (Nat × Instr × Nat)), il_56.lookup e.1 = some e.2 := by decide +kernel
theorem li_56_11 : il_56.lookup 11 = some (.if_icmp .gt 12, 14) := by decide +kernel
theorem bo_56_14_4d7356 : ∀ e ∈ ([(14, .iload_n 1, 15), (15, .aload_n 0, 16)] : List (Nat × Instr × Nat)), il_56.lookup e.1 = some e.2 := by decide +kernel
theorem li_56_16 : il_56.lookup 16 = some (.getfield 29, 19) := by decide +kernel
theorem li_56_19 : il_56.lookup 19 = some (.arraylength, 20) := by decide +kernel
theorem li_56_20 : il_56.lookup 20 = some (.if_icmp .lt 7, 23) := by decide +kernel
theorem bo_56_27_58fada : ∀ e ∈ ([(27, .aload_n 0, 28)] : List (Nat × Instr × Nat)), il_56.lookup e.1 = some e.2 := by decide +kernel
theorem li_56_28 : il_56.lookup 28 = some (.getfield 29, 31) := by decide +kernel
theorem bo_56_31_c379e3 : ∀ e ∈ ([(31, .iload_n 1, 32)] : List (Nat × Instr × Nat)), il_56.lookup e.1 = some e.2 := by decide +kernel
theorem li_56_32 : il_56.lookup 32 = some (.aaload, 33) := by decide +kernel
theorem bo_57_5_ca77c4 : ∀ e ∈ ([(5, .iload_n 2, 6), (6, .iload_n 3, 7)] : List (Nat × Instr × Nat)), il_57.lookup e.1 = some e.2 := by decide +kernel
theorem li_57_7 : il_57.lookup 7 = some (.if_icmp .ge 13, 10) := by decide +kernel
theorem li_57_20 : il_57.lookup 20 = some (.return_, 21) := by decide +kernel
theorem bo_57_10_4b0123 : ∀ e ∈ ([(10, .aload_n 0, 11), (11, .iload_n 2, 12), (12, .iload_n 1, 13)] : List (Nat × Instr × Nat)), il_57.lookup e.1 = some e.2 := by decide +kernel
theorem li_57_13 : il_57.lookup 13 = some (.iastore, 14) := by decide +kernel
theorem bo_57_14_071393 : ∀ e ∈ ([(14, .iinc 2 1, 17), (17, .goto (-12), 20)] : List (Nat × Instr × Nat)), il_57.lookup e.1 = some e.2 := by decide +kernel
theorem bo_57_0_8b3750 : ∀ e ∈ ([(0, .iconst 0, 1), (1, .istore_n 2, 2), (2, .aload_n 0, 3)] : List (Nat × Instr × Nat)), il_57.lookup e.1 = some e.2 := by decide +kernel
theorem li_57_3 : il_57.lookup 3 = some (.arraylength, 4) := by decide +kernel
theorem bo_57_4_e962e2 : ∀ e ∈ ([(4, .istore_n 3, 5)] : List (Nat × Instr × Nat)), il_57.lookup e.1 = some e.2 := by decide +kernel
theorem bo_58_0_8d5162 : ∀ e ∈ ([(0, .aload_n 0, 1)] : List (Nat × Instr × Nat)), il_58.lookup e.1 = some e.2 := by decide +kernel
theorem li_58_1 : il_58.lookup 1 = some (.getfield 9, 4) := by decide +kernel
theorem bo_58_4_e962e2 : ∀ e ∈ ([(4, .iconst 0, 5)] : List (Nat × Instr × Nat)), il_58.lookup e.1 = some e.2 := by decide +kernel
theorem li_58_5 : il_58.lookup 5 = some (.invokestatic 28, 8) := by decide +kernel
theorem bo_58_8_383530 : ∀ e ∈ ([(8, .aload_n 0, 9)] : List (Nat × Instr × Nat)), il_58.lookup e.1 = some e.2 := by decide +kernel
theorem li_58_9 : il_58.lookup 9 = some (.getfield 15, 12) := by decide +kernel
theorem bo_58_12_d0d0c9 : ∀ e ∈ ([(12, .iconst 0, 13)] : List (Nat × Instr × Nat)), il_58.lookup e.1 = some e.2 := by decide +kernel
theorem li_58_13 : il_58.lookup 13 = some (.invokestatic 28, 16) := by decide +kernel
theorem bo_58_16_f4f9fa : ∀ e ∈ ([(16, .aload_n 0, 17), (17, .iconst 0, 18)] : List (Nat × Instr × Nat)), il_58.lookup e.1 = some e.2 := by decide +kernel
theorem li_58_18 : il_58.lookup 18 = some (.putfield 18, 21) := by decide +kernel
theorem li_58_21 : il_58.lookup 21 = some (.return_, 22) := by decide +kernel
theorem bo_59_0_264884 : ∀ e ∈ ([(0, .aload_n 0, 1), (1, .iconst 0, 2)] : List (Nat × Instr × Nat)), il_59.lookup e.1 = some e.2 := by decide +kernel
theorem li_59_2 : il_59.lookup 2 = some (.putfield 18, 5) := by decide +kernel
theorem bo_59_5_ca77c4 : ∀ e ∈ ([(5, .aload_n 0, 6), (6, .iconst 0, 7)] : List (Nat × Instr × Nat)), il_59.lookup e.1 = some e.2 := by decide +kernel
theorem li_59_7 : il_59.lookup 7 = some (.putfield 22, 10) := by decide +kernel
theorem li_59_10 : il_59.lookup 10 = some (.return_, 11) := by decide +kernel
theorem e_ab_init {d : Nat} (hd : 1 ≤ d) (p0 : Nat) (p1 : Int32) (M : Mem) (r : Mem) (h : f_ab_init p0 p1 M = some r) : EV d 0 0 (entL 2 [.ref p0, .int p1]) [] M (none, r) := by
  show EV d 0 0 [some (.ref p0), some (.int p1)] [] M _
  unfold f_ab_init at h
  refine EV_stq mx_0 (pc' := 1) (L' := [some (.ref p0), some (.int p1)]) (st' := [.ref p0]) bo_0_0_8d5162 rfl ?_
  refine r_oi mx_0 li_0_1 si_0_3 rfl (by omega) (Nat.le_of_ble_eq_true rfl) ?_
  refine EV_stq mx_0 (pc' := 12) (L' := [some (.ref p0), some (.int p1)]) (st' := [.int p1, .ref p0]) bo_0_4_272186 rfl ?_
  refine r_nA mx_0 li_0_12 (by decide) h (fun a1 M2 h => ?_)
  refine r_pR mx_0 li_0_14 fd_0_15 (Or.inl rfl) rfl h (fun M3 h => ?_)
  refine EV_stq mx_0 (pc' := 19) (L' := [some (.ref p0), some (.int p1)]) (st' := [.int (0 : Int32), .ref p0]) bo_0_17_03196b rfl ?_
  refine r_pB mx_0 li_0_19 fd_0_22 (Or.inl rfl) rfl h (fun M4 h => ?_)
  refine EV_stq mx_0 (pc' := 38) (L' := [some (.ref p0), some (.int p1)]) (st' := []) bo_0_22_60ac31 rfl ?_
  obtain rfl := Option.some.inj h
  exact r_ret mx_0 li_0_38 rfl rfl
theorem e_sb_init {d : Nat} (hd : 2 ≤ d) (p0 : Nat) (M : Mem) (r : Mem) (h : f_sb_init p0 M = some r) : EV d 1 0 (entL 1 [.ref p0]) [] M (none, r) := by
  show EV d 1 0 [some (.ref p0)] [] M _
  unfold f_sb_init at h
  refine EV_stq mx_1 (pc' := 3) (L' := [some (.ref p0)]) (st' := [.int (16 : Int32), .ref p0]) bo_1_0_264884 rfl ?_
  refine h_cV h (fun M1 e h => ?_)
  refine EV_call [.ref p0, .int (16 : Int32)] [] mx_1 li_1_3 rfl rfl si_1_1 rfl (by decide) (by decide) (by omega) ma_0 rfl (Nat.le_of_ble_eq_true rfl) rfl rfl (Nat.le_of_ble_eq_true rfl) rfl (e_ab_init (by omega) p0 (16 : Int32) M _ e) ?_
  show EV d 1 6 [some (.ref p0)] [] M1 _
  obtain rfl := Option.some.inj h
  exact r_ret mx_1 li_1_6 rfl rfl
theorem e_rd_init {d : Nat} (hd : 1 ≤ d) (p0 : Nat) (p1 : Nat) (M : Mem) (r : Mem) (h : f_rd_init p0 p1 M = some r) : EV d 2 0 (entL 2 [.ref p0, .ref p1]) [] M (none, r) := by
  show EV d 2 0 [some (.ref p0), some (.ref p1)] [] M _
  unfold f_rd_init at h
  refine EV_stq mx_2 (pc' := 1) (L' := [some (.ref p0), some (.ref p1)]) (st' := [.ref p0]) bo_2_0_8d5162 rfl ?_
  refine r_oi mx_2 li_2_1 si_2_3 rfl (by omega) (Nat.le_of_ble_eq_true rfl) ?_
  refine EV_stq mx_2 (pc' := 6) (L' := [some (.ref p0), some (.ref p1)]) (st' := [.int (4 : Int32), .ref p0]) bo_2_4_40e659 rfl ?_
  refine r_nA mx_2 li_2_6 (by decide) h (fun a1 M2 h => ?_)
  refine r_pR mx_2 li_2_8 fd_2_9 (Or.inr ⟨rfl, rfl, rfl⟩) rfl h (fun M3 h => ?_)
  refine EV_stq mx_2 (pc' := 13) (L' := [some (.ref p0), some (.ref p1)]) (st' := [.int (4 : Int32), .ref p0]) bo_2_11_274bbd rfl ?_
  refine r_nA mx_2 li_2_13 (by decide) h (fun a4 M5 h => ?_)
  refine r_pR mx_2 li_2_15 fd_2_15 (Or.inr ⟨rfl, rfl, rfl⟩) rfl h (fun M6 h => ?_)
  refine EV_stq mx_2 (pc' := 20) (L' := [some (.ref p0), some (.ref p1)]) (st' := [.int (4 : Int32), .ref p0]) bo_2_18_d268ac rfl ?_
  refine r_nA mx_2 li_2_20 (by decide) h (fun a7 M8 h => ?_)
  refine r_pR mx_2 li_2_22 fd_2_18 (Or.inr ⟨rfl, rfl, rfl⟩) rfl h (fun M9 h => ?_)
  refine EV_stq mx_2 (pc' := 27) (L' := [some (.ref p0), some (.ref p1)]) (st' := [.int (4 : Int32), .ref p0]) bo_2_25_6328ed rfl ?_
  refine r_nA mx_2 li_2_27 (by decide) h (fun a10 M11 h => ?_)
  refine r_pR mx_2 li_2_29 fd_2_21 (Or.inr ⟨rfl, rfl, rfl⟩) rfl h (fun M12 h => ?_)
  refine EV_stq mx_2 (pc' := 34) (L' := [some (.ref p0), some (.ref p1)]) (st' := [.ref p1, .ref p0]) bo_2_32_dac25e rfl ?_
  refine r_pR mx_2 li_2_34 fd_2_24 (Or.inr ⟨rfl, rfl, rfl⟩) rfl h (fun M13 h => ?_)
  obtain rfl := Option.some.inj h
  exact r_ret mx_2 li_2_37 rfl rfl
theorem e_se_init {d : Nat} (hd : 1 ≤ d) (p0 : Nat) (M : Mem) (r : Mem) (h : f_se_init p0 M = some r) : EV d 3 0 (entL 1 [.ref p0]) [] M (none, r) := by
  show EV d 3 0 [some (.ref p0)] [] M _
  unfold f_se_init at h
  refine EV_stq mx_3 (pc' := 1) (L' := [some (.ref p0)]) (st' := [.ref p0]) bo_3_0_8d5162 rfl ?_
  refine r_oi mx_3 li_3_1 si_3_1 rfl (by omega) (Nat.le_of_ble_eq_true rfl) ?_
  refine EV_stq mx_3 (pc' := 6) (L' := [some (.ref p0)]) (st' := [.int (2 : Int32), .ref p0]) bo_3_4_40e659 rfl ?_
  refine r_pI mx_3 li_3_6 fd_3_7 (Or.inl rfl) rfl h (fun M1 h => ?_)
  refine EV_stq mx_3 (pc' := 11) (L' := [some (.ref p0)]) (st' := [.int (3 : Int32), .ref p0]) bo_3_9_16efa2 rfl ?_
  refine r_pI mx_3 li_3_11 fd_3_13 (Or.inl rfl) rfl h (fun M2 h => ?_)
  refine EV_stq mx_3 (pc' := 16) (L' := [some (.ref p0)]) (st' := [.int (2 : Int32), .ref p0]) bo_3_14_4d7356 rfl ?_
  refine r_pI mx_3 li_3_16 fd_3_16 (Or.inl rfl) rfl h (fun M3 h => ?_)
  refine EV_stq mx_3 (pc' := 21) (L' := [some (.ref p0)]) (st' := [.int (2 : Int32), .ref p0]) bo_3_19_643a70 rfl ?_
  refine r_pI mx_3 li_3_21 fd_3_19 (Or.inl rfl) rfl h (fun M4 h => ?_)
  obtain rfl := Option.some.inj h
  exact r_ret mx_3 li_3_24 rfl rfl
theorem e_rc_init {d : Nat} (hd : 1 ≤ d) (p0 : Nat) (p1 : Int32) (M : Mem) (r : Mem) (h : f_rc_init p0 p1 M = some r) : EV d 4 0 (entL 3 [.ref p0, .int p1]) [] M (none, r) := by
  show EV d 4 0 [some (.ref p0), some (.int p1), none] [] M _
  unfold f_rc_init at h
  refine EV_stq mx_4 (pc' := 1) (L' := [some (.ref p0), some (.int p1), none]) (st' := [.ref p0]) bo_4_0_8d5162 rfl ?_
  refine r_oi mx_4 li_4_1 si_4_1 rfl (by omega) (Nat.le_of_ble_eq_true rfl) ?_
  refine EV_stq mx_4 (pc' := 13) (L' := [some (.ref p0), some (.int p1), some (.int ((1 : Int32) <<< ((p1 &&& (7 : Int32)) &&& 31)))]) (st' := [.int ((1 : Int32) <<< ((p1 &&& (7 : Int32)) &&& 31)), .ref p0]) bo_4_4_406761 rfl ?_
  refine r_nA mx_4 li_4_13 (by decide) h (fun a1 M2 h => ?_)
  refine r_pR mx_4 li_4_15 fd_4_7 (Or.inr ⟨rfl, rfl, rfl⟩) rfl h (fun M3 h => ?_)
  refine EV_stq mx_4 (pc' := 20) (L' := [some (.ref p0), some (.int p1), some (.int ((1 : Int32) <<< ((p1 &&& (7 : Int32)) &&& 31)))]) (st' := [.int ((1 : Int32) <<< ((p1 &&& (7 : Int32)) &&& 31)), .ref p0]) bo_4_18_d268ac rfl ?_
  refine r_nA mx_4 li_4_20 (by decide) h (fun a4 M5 h => ?_)
  refine r_pR mx_4 li_4_22 fd_4_13 (Or.inr ⟨rfl, rfl, rfl⟩) rfl h (fun M6 h => ?_)
  refine EV_stq mx_4 (pc' := 27) (L' := [some (.ref p0), some (.int p1), some (.int ((1 : Int32) <<< ((p1 &&& (7 : Int32)) &&& 31)))]) (st' := [.int ((1 : Int32) <<< ((p1 &&& (7 : Int32)) &&& 31)), .ref p0]) bo_4_25_6328ed rfl ?_
  refine r_nA mx_4 li_4_27 (by decide) h (fun a7 M8 h => ?_)
  refine r_pR mx_4 li_4_29 fd_4_16 (Or.inr ⟨rfl, rfl, rfl⟩) rfl h (fun M9 h => ?_)
  refine EV_stq mx_4 (pc' := 36) (L' := [some (.ref p0), some (.int p1), some (.int ((1 : Int32) <<< ((p1 &&& (7 : Int32)) &&& 31)))]) (st' := [.int (((1 : Int32) <<< ((p1 &&& (7 : Int32)) &&& 31)) - (1 : Int32)), .ref p0]) bo_4_32_8178e9 rfl ?_
  refine r_pI mx_4 li_4_36 fd_4_19 (Or.inr ⟨rfl, rfl, rfl⟩) rfl h (fun M10 h => ?_)
  obtain rfl := Option.some.inj h
  exact r_ret mx_4 li_4_39 rfl rfl
theorem e_la_init {d : Nat} (hd : 1 ≤ d) (p0 : Nat) (M : Mem) (r : Mem) (h : f_la_init p0 M = some r) : EV d 5 0 (entL 1 [.ref p0]) [] M (none, r) := by
  show EV d 5 0 [some (.ref p0)] [] M _
  unfold f_la_init at h
  refine EV_stq mx_5 (pc' := 1) (L' := [some (.ref p0)]) (st' := [.ref p0]) bo_5_0_8d5162 rfl ?_
  refine r_oi mx_5 li_5_1 si_5_1 rfl (by omega) (Nat.le_of_ble_eq_true rfl) ?_
  refine EV_stq mx_5 (pc' := 7) (L' := [some (.ref p0)]) (st' := [.int (64 : Int32), .ref p0]) bo_5_4_40e659 rfl ?_
  refine r_nA mx_5 li_5_7 (by decide) h (fun a1 M2 h => ?_)
  refine r_pR mx_5 li_5_9 fd_5_7 (Or.inl rfl) rfl h (fun M3 h => ?_)
  obtain rfl := Option.some.inj h
  exact r_ret mx_5 li_5_12 rfl rfl
theorem e_ky_init {d : Nat} (hd : 1 ≤ d) (p0 : Nat) (M : Mem) (r : Mem) (h : f_ky_init p0 M = some r) : EV d 6 0 (entL 1 [.ref p0]) [] M (none, r) := by
  show EV d 6 0 [some (.ref p0)] [] M _
  unfold f_ky_init at h
  refine EV_stq mx_6 (pc' := 1) (L' := [some (.ref p0)]) (st' := [.ref p0]) bo_6_0_8d5162 rfl ?_
  refine r_oi mx_6 li_6_1 si_6_3 rfl (by omega) (Nat.le_of_ble_eq_true rfl) ?_
  refine EV_stq mx_6 (pc' := 7) (L' := [some (.ref p0)]) (st' := [.int (16 : Int32), .ref p0]) bo_6_4_40e659 rfl ?_
  refine r_nA mx_6 li_6_7 (by decide) h (fun a1 M2 h => ?_)
  refine r_pR mx_6 li_6_9 fd_6_9 (Or.inr ⟨rfl, rfl, rfl⟩) rfl h (fun M3 h => ?_)
  refine EV_stq mx_6 (pc' := 15) (L' := [some (.ref p0)]) (st' := [.int (16 : Int32), .ref p0]) bo_6_12_1089ca rfl ?_
  refine r_nA mx_6 li_6_15 (by decide) h (fun a4 M5 h => ?_)
  refine r_pR mx_6 li_6_17 fd_6_15 (Or.inr ⟨rfl, rfl, rfl⟩) rfl h (fun M6 h => ?_)
  obtain rfl := Option.some.inj h
  exact r_ret mx_6 li_6_20 rfl rfl
theorem e_is_init {d : Nat} (hd : 2 ≤ d) (p0 : Nat) (M : Mem) (r : Mem) (h : f_is_init p0 M = some r) : EV d 7 0 (entL 1 [.ref p0]) [] M (none, r) := by
  show EV d 7 0 [some (.ref p0)] [] M _
  unfold f_is_init at h
  refine EV_stq mx_7 (pc' := 1) (L' := [some (.ref p0)]) (st' := [.ref p0]) bo_7_0_8d5162 rfl ?_
  refine r_oi mx_7 li_7_1 si_7_1 rfl (by omega) (Nat.le_of_ble_eq_true rfl) ?_
  refine EV_stq mx_7 (pc' := 5) (L' := [some (.ref p0)]) (st' := [.ref p0]) bo_7_4_e962e2 rfl ?_
  refine r_nO mx_7 li_7_5 nw_7_7 h (fun a1 M2 h => ?_)
  refine EV_stq mx_7 (pc' := 10) (L' := [some (.ref p0)]) (st' := [.int (2 : Int32), .ref a1, .ref a1, .ref p0]) bo_7_8_0adad6 rfl ?_
  refine h_cV h (fun M3 e h => ?_)
  refine EV_call [.ref a1, .int (2 : Int32)] [.ref a1, .ref p0] mx_7 li_7_10 rfl rfl si_7_9 rfl (by decide) (by decide) (by omega) ma_4 rfl (Nat.le_of_ble_eq_true rfl) rfl rfl (Nat.le_of_ble_eq_true rfl) rfl (e_rc_init (by omega) a1 (2 : Int32) M2 _ e) ?_
  show EV d 7 13 [some (.ref p0)] [.ref a1, .ref p0] M3 _
  refine r_pR mx_7 li_7_13 fd_7_12 (Or.inr ⟨rfl, rfl, rfl⟩) rfl h (fun M4 h => ?_)
  obtain rfl := Option.some.inj h
  exact r_ret mx_7 li_7_16 rfl rfl
theorem e_op_become {d : Nat} (hd : 0 ≤ d) (p0 : Nat) (p1 : Int32) (p2 : Int32) (p3 : Int32) (p4 : Int32) (M : Mem) (r : Mem) (h : f_op_become p0 p1 p2 p3 p4 M = some r) : EV d 8 0 (entL 5 [.ref p0, .int p1, .int p2, .int p3, .int p4]) [] M (none, r) := by
  show EV d 8 0 [some (.ref p0), some (.int p1), some (.int p2), some (.int p3), some (.int p4)] [] M _
  unfold f_op_become at h
  refine EV_stq mx_8 (pc' := 2) (L' := [some (.ref p0), some (.int p1), some (.int p2), some (.int p3), some (.int p4)]) (st' := [.int p1, .ref p0]) bo_8_0_264884 rfl ?_
  refine r_pI mx_8 li_8_2 fd_8_47 (Or.inl rfl) rfl h (fun M1 h => ?_)
  refine EV_stq mx_8 (pc' := 7) (L' := [some (.ref p0), some (.int p1), some (.int p2), some (.int p3), some (.int p4)]) (st' := [.int p2, .ref p0]) bo_8_5_ca77c4 rfl ?_
  refine r_pI mx_8 li_8_7 fd_8_51 (Or.inl rfl) rfl h (fun M2 h => ?_)
  refine EV_stq mx_8 (pc' := 12) (L' := [some (.ref p0), some (.int p1), some (.int p2), some (.int p3), some (.int p4)]) (st' := [.int p3, .ref p0]) bo_8_10_42a704 rfl ?_
  refine r_pI mx_8 li_8_12 fd_8_54 (Or.inl rfl) rfl h (fun M3 h => ?_)
  refine EV_stq mx_8 (pc' := 18) (L' := [some (.ref p0), some (.int p1), some (.int p2), some (.int p3), some (.int p4)]) (st' := [.int p4, .ref p0]) bo_8_15_d45c32 rfl ?_
  refine r_pI mx_8 li_8_18 fd_8_57 (Or.inl rfl) rfl h (fun M4 h => ?_)
  obtain rfl := Option.some.inj h
  exact r_ret mx_8 li_8_21 rfl rfl
theorem e_op_init_70 {d : Nat} (hd : 3 ≤ d) : ∀ (n : Nat) (l0 : Nat) (l1 : Int32) (l2 : Int32) (M : Mem) (r : Mem), f_op_init_70 n l0 l1 l2 M = some r → EV d 9 70 [some (.ref l0), some (.int l1), some (.int l2)] [] M (none, r) := by
  intro n
  induction n with
  | zero => intro l0 l1 l2 M r h; cases h
  | succ n ih =>
    intro l0 l1 l2 M r h
    unfold f_op_init_70 at h
    refine EV_stq mx_9 (pc' := 72) (L' := [some (.ref l0), some (.int l1), some (.int l2)]) (st' := [.ref l0, .int l2]) bo_9_70_c6678a rfl ?_
    refine r_gA mx_9 li_9_72 fd_8_11 rfl h (fun a1 h => ?_)
    refine r_aN mx_9 li_9_75 h (fun v2 h => ?_)
    refine h_ge h (fun h hc => ?_) (fun h hc => ?_)
    · refine r_icT mx_9 li_9_76 (by decide) rfl hc ?_
      refine EV_stq mx_9 (pc' := 103) (L' := [some (.ref l0), some (.int l1), some (.int l2)]) (st' := [.int (1 : Int32), .int (0 : Int32), .int (0 : Int32), .int l1, .ref l0]) bo_9_98_dbac35 rfl ?_
      refine h_ck h (fun hc h => ?_)
      refine h_cV h (fun M3 e h => ?_)
      refine EV_call [.ref l0, .int l1, .int (0 : Int32), .int (0 : Int32), .int (1 : Int32)] [] mx_9 li_9_103 rfl rfl si_8_43 rfl (by decide) (by decide) (by omega) ma_8 rfl (Nat.le_of_ble_eq_true rfl) rfl rfl (Nat.le_of_ble_eq_true rfl) (rc_1 mt_at_8 rfl rfl (by decide) hc) (e_op_become (by omega) l0 l1 (0 : Int32) (0 : Int32) (1 : Int32) M _ e) ?_
      show EV d 9 106 [some (.ref l0), some (.int l1), some (.int l2)] [] M3 _
      obtain rfl := Option.some.inj h
      exact r_ret mx_9 li_9_106 rfl rfl
    · refine r_icF mx_9 li_9_76 (by decide) hc ?_
      refine EV_stq mx_9 (pc' := 80) (L' := [some (.ref l0), some (.int l1), some (.int l2)]) (st' := [.ref l0]) bo_9_79_febf86 rfl ?_
      refine r_gA mx_9 li_9_80 fd_8_11 rfl h (fun a4 h => ?_)
      refine EV_stq mx_9 (pc' := 84) (L' := [some (.ref l0), some (.int l1), some (.int l2)]) (st' := [.int l2, .ref a4]) bo_9_83_dbc641 rfl ?_
      refine r_nO mx_9 li_9_84 nw_8_9 h (fun a5 M6 h => ?_)
      refine EV_stq mx_9 (pc' := 88) (L' := [some (.ref l0), some (.int l1), some (.int l2)]) (st' := [.ref a5, .ref a5, .int l2, .ref a4]) bo_9_87_816bca rfl ?_
      refine h_cV h (fun M7 e h => ?_)
      refine EV_call [.ref a5] [.ref a5, .int l2, .ref a4] mx_9 li_9_88 rfl rfl si_8_42 rfl (by decide) (by decide) (by omega) ma_7 rfl (Nat.le_of_ble_eq_true rfl) rfl rfl (Nat.le_of_ble_eq_true rfl) rfl (e_is_init (by omega) a5 M6 _ e) ?_
      show EV d 9 91 [some (.ref l0), some (.int l1), some (.int l2)] [.ref a5, .int l2, .ref a4] M7 _
      refine r_sR mx_9 li_9_91 h (fun M8 h => ?_)
      refine EV_stq mx_9 (pc' := 70) (L' := [some (.ref l0), some (.int l1), some (.int (l2 + (1 : Int32)))]) (st' := []) bo_9_92_c58084 rfl ?_
      exact ih l0 l1 (l2 + (1 : Int32)) M8 r h
theorem e_op_init {d : Nat} (hd : 3 ≤ d) (p0 : Nat) (p1 : Int32) (M : Mem) (r : Mem) (h : f_op_init p0 p1 M = some r) : EV d 9 0 (entL 3 [.ref p0, .int p1]) [] M (none, r) := by
  show EV d 9 0 [some (.ref p0), some (.int p1), none] [] M _
  unfold f_op_init at h
  refine EV_stq mx_9 (pc' := 1) (L' := [some (.ref p0), some (.int p1), none]) (st' := [.ref p0]) bo_9_0_8d5162 rfl ?_
  refine r_oi mx_9 li_9_1 si_8_3 rfl (by omega) (Nat.le_of_ble_eq_true rfl) ?_
  refine EV_stq mx_9 (pc' := 6) (L' := [some (.ref p0), some (.int p1), none]) (st' := [.int (3 : Int32), .ref p0]) bo_9_4_40e659 rfl ?_
  refine r_nR mx_9 li_9_6 an_8_9 h (fun a1 M2 h => ?_)
  refine r_pR mx_9 li_9_9 fd_8_11 (Or.inr ⟨rfl, rfl, rfl⟩) rfl h (fun M3 h => ?_)
  refine EV_stq mx_9 (pc' := 13) (L' := [some (.ref p0), some (.int p1), none]) (st' := [.ref p0]) bo_9_12_d0d0c9 rfl ?_
  refine r_nO mx_9 li_9_13 nw_8_17 h (fun a4 M5 h => ?_)
  refine EV_stq mx_9 (pc' := 17) (L' := [some (.ref p0), some (.int p1), none]) (st' := [.ref a4, .ref a4, .ref p0]) bo_9_16_862b1a rfl ?_
  refine h_cV h (fun M6 e h => ?_)
  refine EV_call [.ref a4] [.ref a4, .ref p0] mx_9 li_9_17 rfl rfl si_8_19 rfl (by decide) (by decide) (by omega) ma_6 rfl (Nat.le_of_ble_eq_true rfl) rfl rfl (Nat.le_of_ble_eq_true rfl) rfl (e_ky_init (by omega) a4 M5 _ e) ?_
  show EV d 9 20 [some (.ref p0), some (.int p1), none] [.ref a4, .ref p0] M6 _
  refine r_pR mx_9 li_9_20 fd_8_20 (Or.inr ⟨rfl, rfl, rfl⟩) rfl h (fun M7 h => ?_)
  refine EV_stq mx_9 (pc' := 24) (L' := [some (.ref p0), some (.int p1), none]) (st' := [.ref p0]) bo_9_23_b37e12 rfl ?_
  refine r_nO mx_9 li_9_24 nw_8_17 h (fun a8 M9 h => ?_)
  refine EV_stq mx_9 (pc' := 28) (L' := [some (.ref p0), some (.int p1), none]) (st' := [.ref a8, .ref a8, .ref p0]) bo_9_27_58fada rfl ?_
  refine h_cV h (fun M10 e h => ?_)
  refine EV_call [.ref a8] [.ref a8, .ref p0] mx_9 li_9_28 rfl rfl si_8_19 rfl (by decide) (by decide) (by omega) ma_6 rfl (Nat.le_of_ble_eq_true rfl) rfl rfl (Nat.le_of_ble_eq_true rfl) rfl (e_ky_init (by omega) a8 M9 _ e) ?_
  show EV d 9 31 [some (.ref p0), some (.int p1), none] [.ref a8, .ref p0] M10 _
  refine r_pR mx_9 li_9_31 fd_8_24 (Or.inr ⟨rfl, rfl, rfl⟩) rfl h (fun M11 h => ?_)
  refine EV_stq mx_9 (pc' := 35) (L' := [some (.ref p0), some (.int p1), none]) (st' := [.ref p0]) bo_9_34_130638 rfl ?_
  refine r_nO mx_9 li_9_35 nw_8_17 h (fun a12 M13 h => ?_)
  refine EV_stq mx_9 (pc' := 39) (L' := [some (.ref p0), some (.int p1), none]) (st' := [.ref a12, .ref a12, .ref p0]) bo_9_38_c8c763 rfl ?_
  refine h_cV h (fun M14 e h => ?_)
  refine EV_call [.ref a12] [.ref a12, .ref p0] mx_9 li_9_39 rfl rfl si_8_19 rfl (by decide) (by decide) (by omega) ma_6 rfl (Nat.le_of_ble_eq_true rfl) rfl rfl (Nat.le_of_ble_eq_true rfl) rfl (e_ky_init (by omega) a12 M13 _ e) ?_
  show EV d 9 42 [some (.ref p0), some (.int p1), none] [.ref a12, .ref p0] M14 _
  refine r_pR mx_9 li_9_42 fd_8_27 (Or.inr ⟨rfl, rfl, rfl⟩) rfl h (fun M15 h => ?_)
  refine EV_stq mx_9 (pc' := 46) (L' := [some (.ref p0), some (.int p1), none]) (st' := [.ref p0]) bo_9_45_8e29f2 rfl ?_
  refine r_nO mx_9 li_9_46 nw_8_17 h (fun a16 M17 h => ?_)
  refine EV_stq mx_9 (pc' := 50) (L' := [some (.ref p0), some (.int p1), none]) (st' := [.ref a16, .ref a16, .ref p0]) bo_9_49_e052b7 rfl ?_
  refine h_cV h (fun M18 e h => ?_)
  refine EV_call [.ref a16] [.ref a16, .ref p0] mx_9 li_9_50 rfl rfl si_8_19 rfl (by decide) (by decide) (by omega) ma_6 rfl (Nat.le_of_ble_eq_true rfl) rfl rfl (Nat.le_of_ble_eq_true rfl) rfl (e_ky_init (by omega) a16 M17 _ e) ?_
  show EV d 9 53 [some (.ref p0), some (.int p1), none] [.ref a16, .ref p0] M18 _
  refine r_pR mx_9 li_9_53 fd_8_30 (Or.inr ⟨rfl, rfl, rfl⟩) rfl h (fun M19 h => ?_)
  refine EV_stq mx_9 (pc' := 57) (L' := [some (.ref p0), some (.int p1), none]) (st' := [.ref p0]) bo_9_56_350148 rfl ?_
  refine r_nO mx_9 li_9_57 nw_8_33 h (fun a20 M21 h => ?_)
  refine EV_stq mx_9 (pc' := 62) (L' := [some (.ref p0), some (.int p1), none]) (st' := [.int (2 : Int32), .ref a20, .ref a20, .ref p0]) bo_9_60_3e1655 rfl ?_
  refine h_cV h (fun M22 e h => ?_)
  refine EV_call [.ref a20, .int (2 : Int32)] [.ref a20, .ref p0] mx_9 li_9_62 rfl rfl si_8_35 rfl (by decide) (by decide) (by omega) ma_4 rfl (Nat.le_of_ble_eq_true rfl) rfl rfl (Nat.le_of_ble_eq_true rfl) rfl (e_rc_init (by omega) a20 (2 : Int32) M21 _ e) ?_
  show EV d 9 65 [some (.ref p0), some (.int p1), none] [.ref a20, .ref p0] M22 _
  refine r_pR mx_9 li_9_65 fd_8_38 (Or.inr ⟨rfl, rfl, rfl⟩) rfl h (fun M23 h => ?_)
  refine EV_stq mx_9 (pc' := 70) (L' := [some (.ref p0), some (.int p1), some (.int (0 : Int32))]) (st' := []) bo_9_68_702533 rfl ?_
  exact e_op_init_70 hd FU p0 p1 (0 : Int32) M23 r h
theorem e_ch_init {d : Nat} (hd : 2 ≤ d) (p0 : Nat) (p1 : Nat) (M : Mem) (r : Mem) (h : f_ch_init p0 p1 M = some r) : EV d 10 0 (entL 2 [.ref p0, .ref p1]) [] M (none, r) := by
  show EV d 10 0 [some (.ref p0), some (.ref p1)] [] M _
  unfold f_ch_init at h
  refine EV_stq mx_10 (pc' := 1) (L' := [some (.ref p0), some (.ref p1)]) (st' := [.ref p0]) bo_10_0_8d5162 rfl ?_
  refine r_oi mx_10 li_10_1 si_9_1 rfl (by omega) (Nat.le_of_ble_eq_true rfl) ?_
  refine EV_stq mx_10 (pc' := 5) (L' := [some (.ref p0), some (.ref p1)]) (st' := [.ref p0]) bo_10_4_e962e2 rfl ?_
  refine r_nO mx_10 li_10_5 nw_9_7 h (fun a1 M2 h => ?_)
  refine EV_stq mx_10 (pc' := 10) (L' := [some (.ref p0), some (.ref p1)]) (st' := [.int (5 : Int32), .ref a1, .ref a1, .ref p0]) bo_10_8_0adad6 rfl ?_
  refine h_cV h (fun M3 e h => ?_)
  refine EV_call [.ref a1, .int (5 : Int32)] [.ref a1, .ref p0] mx_10 li_10_10 rfl rfl si_9_9 rfl (by decide) (by decide) (by omega) ma_4 rfl (Nat.le_of_ble_eq_true rfl) rfl rfl (Nat.le_of_ble_eq_true rfl) rfl (e_rc_init (by omega) a1 (5 : Int32) M2 _ e) ?_
  show EV d 10 13 [some (.ref p0), some (.ref p1)] [.ref a1, .ref p0] M3 _
  refine r_pR mx_10 li_10_13 fd_9_12 (Or.inr ⟨rfl, rfl, rfl⟩) rfl h (fun M4 h => ?_)
  refine EV_stq mx_10 (pc' := 18) (L' := [some (.ref p0), some (.ref p1)]) (st' := [.int (4 : Int32), .ref p0]) bo_10_16_f4f9fa rfl ?_
  refine r_nA mx_10 li_10_18 (by decide) h (fun a5 M6 h => ?_)
  refine r_pR mx_10 li_10_20 fd_9_18 (Or.inr ⟨rfl, rfl, rfl⟩) rfl h (fun M7 h => ?_)
  refine EV_stq mx_10 (pc' := 25) (L' := [some (.ref p0), some (.ref p1)]) (st' := [.ref p1, .ref p0]) bo_10_23_31ad6f rfl ?_
  refine r_pR mx_10 li_10_25 fd_9_22 (Or.inr ⟨rfl, rfl, rfl⟩) rfl h (fun M8 h => ?_)
  obtain rfl := Option.some.inj h
  exact r_ret mx_10 li_10_28 rfl rfl
theorem e_sm_init_100 {d : Nat} (hd : 4 ≤ d) : ∀ (n : Nat) (l0 : Nat) (l1 : Int32) (M : Mem) (r : Mem), f_sm_init_100 n l0 l1 M = some r → EV d 11 100 [some (.ref l0), some (.int l1)] [] M (none, r) := by
  intro n
  induction n with
  | zero => intro l0 l1 M r h; cases h
  | succ n ih =>
    intro l0 l1 M r h
    unfold f_sm_init_100 at h
    refine EV_stq mx_11 (pc' := 102) (L' := [some (.ref l0), some (.int l1)]) (st' := [.ref l0, .int l1]) bo_11_100_3b2469 rfl ?_
    refine r_gA mx_11 li_11_102 fd_10_35 rfl h (fun a1 h => ?_)
    refine r_aN mx_11 li_11_105 h (fun v2 h => ?_)
    refine h_ge h (fun h hc => ?_) (fun h hc => ?_)
    · refine r_icT mx_11 li_11_106 (by decide) rfl hc ?_
      obtain rfl := Option.some.inj h
      exact r_ret mx_11 li_11_132 rfl rfl
    · refine r_icF mx_11 li_11_106 (by decide) hc ?_
      refine EV_stq mx_11 (pc' := 110) (L' := [some (.ref l0), some (.int l1)]) (st' := [.ref l0]) bo_11_109_9ce450 rfl ?_
      refine r_gA mx_11 li_11_110 fd_10_35 rfl h (fun a3 h => ?_)
      refine EV_stq mx_11 (pc' := 114) (L' := [some (.ref l0), some (.int l1)]) (st' := [.int l1, .ref a3]) bo_11_113_1912b2 rfl ?_
      refine r_nO mx_11 li_11_114 nw_10_33 h (fun a4 M5 h => ?_)
      refine EV_stq mx_11 (pc' := 119) (L' := [some (.ref l0), some (.int l1)]) (st' := [.ref l0, .ref a4, .ref a4, .int l1, .ref a3]) bo_11_117_32ffd4 rfl ?_
      refine r_gA mx_11 li_11_119 fd_10_12 rfl h (fun a6 h => ?_)
      refine h_cV h (fun M7 e h => ?_)
      refine EV_call [.ref a4, .ref a6] [.ref a4, .int l1, .ref a3] mx_11 li_11_122 rfl rfl si_10_47 rfl (by decide) (by decide) (by omega) ma_10 rfl (Nat.le_of_ble_eq_true rfl) rfl rfl (Nat.le_of_ble_eq_true rfl) rfl (e_ch_init (by omega) a4 a6 M5 _ e) ?_
      show EV d 11 125 [some (.ref l0), some (.int l1)] [.ref a4, .int l1, .ref a3] M7 _
      refine r_sR mx_11 li_11_125 h (fun M8 h => ?_)
      refine EV_stq mx_11 (pc' := 100) (L' := [some (.ref l0), some (.int (l1 + (1 : Int32)))]) (st' := []) bo_11_126_b7f253 rfl ?_
      exact ih l0 (l1 + (1 : Int32)) M8 r h
theorem e_sm_init_88 {d : Nat} (hd : 4 ≤ d) (k59 : Nat → Int32 → Mem → Option (Mem)) (hk59 : ∀ l0 l1 M r, k59 l0 l1 M = some r → EV d 11 59 [some (.ref l0), some (.int l1)] [] M (none, r)) (l0 : Nat) (l1 : Int32) (s0 : Int32) (s1 : Nat) (s2 : Nat) (s3 : Int32) (s4 : Nat) (M : Mem) (r : Mem) (h : f_sm_init_88 k59 l0 l1 s0 s1 s2 s3 s4 M = some r) : EV d 11 88 [some (.ref l0), some (.int l1)] [.int s0, .ref s1, .ref s2, .int s3, .ref s4] M (none, r) := by
  unfold f_sm_init_88 at h
  refine h_cV h (fun M1 e h => ?_)
  refine EV_call [.ref s1, .int s0] [.ref s2, .int s3, .ref s4] mx_11 li_11_88 rfl rfl si_10_46 rfl (by decide) (by decide) (by omega) ma_9 rfl (Nat.le_of_ble_eq_true rfl) rfl rfl (Nat.le_of_ble_eq_true rfl) rfl (e_op_init (by omega) s1 s0 M _ e) ?_
  show EV d 11 91 [some (.ref l0), some (.int l1)] [.ref s2, .int s3, .ref s4] M1 _
  refine r_sR mx_11 li_11_91 h (fun M2 h => ?_)
  refine EV_stq mx_11 (pc' := 59) (L' := [some (.ref l0), some (.int (l1 + (1 : Int32)))]) (st' := []) bo_11_92_c58084 rfl ?_
  exact hk59 l0 (l1 + (1 : Int32)) M2 r h
theorem e_sm_init_59 {d : Nat} (hd : 4 ≤ d) : ∀ (n : Nat) (l0 : Nat) (l1 : Int32) (M : Mem) (r : Mem), f_sm_init_59 n l0 l1 M = some r → EV d 11 59 [some (.ref l0), some (.int l1)] [] M (none, r) := by
  intro n
  induction n with
  | zero => intro l0 l1 M r h; cases h
  | succ n ih =>
    intro l0 l1 M r h
    unfold f_sm_init_59 at h
    refine EV_stq mx_11 (pc' := 61) (L' := [some (.ref l0), some (.int l1)]) (st' := [.ref l0, .int l1]) bo_11_59_d0b94e rfl ?_
    refine r_gA mx_11 li_11_61 fd_10_29 rfl h (fun a1 h => ?_)
    refine r_aN mx_11 li_11_64 h (fun v2 h => ?_)
    refine h_ge h (fun h hc => ?_) (fun h hc => ?_)
    · refine r_icT mx_11 li_11_65 (by decide) rfl hc ?_
      refine EV_stq mx_11 (pc' := 100) (L' := [some (.ref l0), some (.int (0 : Int32))]) (st' := []) bo_11_98_51a86b rfl ?_
      exact e_sm_init_100 hd FU l0 (0 : Int32) M r h
    · refine r_icF mx_11 li_11_65 (by decide) hc ?_
      refine EV_stq mx_11 (pc' := 69) (L' := [some (.ref l0), some (.int l1)]) (st' := [.ref l0]) bo_11_68_7584e0 rfl ?_
      refine r_gA mx_11 li_11_69 fd_10_29 rfl h (fun a3 h => ?_)
      refine EV_stq mx_11 (pc' := 73) (L' := [some (.ref l0), some (.int l1)]) (st' := [.int l1, .ref a3]) bo_11_72_c0ffc8 rfl ?_
      refine r_nO mx_11 li_11_73 nw_10_27 h (fun a4 M5 h => ?_)
      refine EV_stq mx_11 (pc' := 78) (L' := [some (.ref l0), some (.int l1)]) (st' := [.int l1, .ref a4, .ref a4, .int l1, .ref a3]) bo_11_76_3caaf4 rfl ?_
      refine h_ne h (fun h hc => ?_) (fun h hc => ?_)
      · refine r_ifF mx_11 li_11_78 (by decide) hc ?_
        refine EV_stq mx_11 (pc' := 88) (L' := [some (.ref l0), some (.int l1)]) (st' := [.int (7 : Int32), .ref a4, .ref a4, .int l1, .ref a3]) bo_11_81_2da9fd rfl ?_
        exact e_sm_init_88 hd _ ih l0 l1 (7 : Int32) a4 a4 l1 a3 M5 r h
      · refine r_ifT mx_11 li_11_78 (by decide) rfl hc ?_
        refine EV_stq mx_11 (pc' := 88) (L' := [some (.ref l0), some (.int l1)]) (st' := [.int (8 : Int32), .ref a4, .ref a4, .int l1, .ref a3]) bo_11_86_bff005 rfl ?_
        exact e_sm_init_88 hd _ ih l0 l1 (8 : Int32) a4 a4 l1 a3 M5 r h
theorem e_sm_init {d : Nat} (hd : 4 ≤ d) (p0 : Nat) (M : Mem) (r : Mem) (h : f_sm_init p0 M = some r) : EV d 11 0 (entL 2 [.ref p0]) [] M (none, r) := by
  show EV d 11 0 [some (.ref p0), none] [] M _
  unfold f_sm_init at h
  refine EV_stq mx_11 (pc' := 1) (L' := [some (.ref p0), none]) (st' := [.ref p0]) bo_11_0_8d5162 rfl ?_
  refine r_oi mx_11 li_11_1 si_10_3 rfl (by omega) (Nat.le_of_ble_eq_true rfl) ?_
  refine EV_stq mx_11 (pc' := 5) (L' := [some (.ref p0), none]) (st' := [.ref p0]) bo_11_4_e962e2 rfl ?_
  refine r_nO mx_11 li_11_5 nw_10_9 h (fun a1 M2 h => ?_)
  refine EV_stq mx_11 (pc' := 9) (L' := [some (.ref p0), none]) (st' := [.ref a1, .ref a1, .ref p0]) bo_11_8_383530 rfl ?_
  refine h_cV h (fun M3 e h => ?_)
  refine EV_call [.ref a1] [.ref a1, .ref p0] mx_11 li_11_9 rfl rfl si_10_11 rfl (by decide) (by decide) (by omega) ma_3 rfl (Nat.le_of_ble_eq_true rfl) rfl rfl (Nat.le_of_ble_eq_true rfl) rfl (e_se_init (by omega) a1 M2 _ e) ?_
  show EV d 11 12 [some (.ref p0), none] [.ref a1, .ref p0] M3 _
  refine r_pR mx_11 li_11_12 fd_10_12 (Or.inr ⟨rfl, rfl, rfl⟩) rfl h (fun M4 h => ?_)
  refine EV_stq mx_11 (pc' := 16) (L' := [some (.ref p0), none]) (st' := [.ref p0]) bo_11_15_be4250 rfl ?_
  refine r_nO mx_11 li_11_16 nw_10_18 h (fun a5 M6 h => ?_)
  refine EV_stq mx_11 (pc' := 22) (L' := [some (.ref p0), none]) (st' := [.int (6 : Int32), .ref a5, .ref a5, .ref p0]) bo_11_19_643a70 rfl ?_
  refine h_cV h (fun M7 e h => ?_)
  refine EV_call [.ref a5, .int (6 : Int32)] [.ref a5, .ref p0] mx_11 li_11_22 rfl rfl si_10_20 rfl (by decide) (by decide) (by omega) ma_4 rfl (Nat.le_of_ble_eq_true rfl) rfl rfl (Nat.le_of_ble_eq_true rfl) rfl (e_rc_init (by omega) a5 (6 : Int32) M6 _ e) ?_
  show EV d 11 25 [some (.ref p0), none] [.ref a5, .ref p0] M7 _
  refine r_pR mx_11 li_11_25 fd_10_23 (Or.inr ⟨rfl, rfl, rfl⟩) rfl h (fun M8 h => ?_)
  refine EV_stq mx_11 (pc' := 31) (L' := [some (.ref p0), none]) (st' := [.int (6 : Int32), .ref p0]) bo_11_28_533662 rfl ?_
  refine r_nR mx_11 li_11_31 an_10_27 h (fun a9 M10 h => ?_)
  refine r_pR mx_11 li_11_34 fd_10_29 (Or.inr ⟨rfl, rfl, rfl⟩) rfl h (fun M11 h => ?_)
  refine EV_stq mx_11 (pc' := 40) (L' := [some (.ref p0), none]) (st' := [.int (45 : Int32), .ref p0]) bo_11_37_b7e9cc rfl ?_
  refine r_nR mx_11 li_11_40 an_10_33 h (fun a12 M13 h => ?_)
  refine r_pR mx_11 li_11_43 fd_10_35 (Or.inr ⟨rfl, rfl, rfl⟩) rfl h (fun M14 h => ?_)
  refine EV_stq mx_11 (pc' := 47) (L' := [some (.ref p0), none]) (st' := [.ref p0]) bo_11_46_4b02d4 rfl ?_
  refine r_nO mx_11 li_11_47 nw_10_39 h (fun a15 M16 h => ?_)
  refine EV_stq mx_11 (pc' := 51) (L' := [some (.ref p0), none]) (st' := [.ref a15, .ref a15, .ref p0]) bo_11_50_8a8783 rfl ?_
  refine h_cV h (fun M17 e h => ?_)
  refine EV_call [.ref a15] [.ref a15, .ref p0] mx_11 li_11_51 rfl rfl si_10_41 rfl (by decide) (by decide) (by omega) ma_5 rfl (Nat.le_of_ble_eq_true rfl) rfl rfl (Nat.le_of_ble_eq_true rfl) rfl (e_la_init (by omega) a15 M16 _ e) ?_
  show EV d 11 54 [some (.ref p0), none] [.ref a15, .ref p0] M17 _
  refine r_pR mx_11 li_11_54 fd_10_42 (Or.inr ⟨rfl, rfl, rfl⟩) rfl h (fun M18 h => ?_)
  refine EV_stq mx_11 (pc' := 59) (L' := [some (.ref p0), some (.int (0 : Int32))]) (st' := []) bo_11_57_1292c4 rfl ?_
  exact e_sm_init_59 hd FU p0 (0 : Int32) M18 r h
theorem e_pl_init {d : Nat} (hd : 1 ≤ d) (p0 : Nat) (p1 : Nat) (M : Mem) (r : Mem) (h : f_pl_init p0 p1 M = some r) : EV d 12 0 (entL 2 [.ref p0, .ref p1]) [] M (none, r) := by
  show EV d 12 0 [some (.ref p0), some (.ref p1)] [] M _
  unfold f_pl_init at h
  refine EV_stq mx_12 (pc' := 1) (L' := [some (.ref p0), some (.ref p1)]) (st' := [.ref p0]) bo_12_0_8d5162 rfl ?_
  refine r_oi mx_12 li_12_1 si_11_3 rfl (by omega) (Nat.le_of_ble_eq_true rfl) ?_
  refine EV_stq mx_12 (pc' := 6) (L' := [some (.ref p0), some (.ref p1)]) (st' := [.ref p1, .ref p0]) bo_12_4_40e659 rfl ?_
  refine r_pR mx_12 li_12_6 fd_11_9 (Or.inr ⟨rfl, rfl, rfl⟩) rfl h (fun M1 h => ?_)
  obtain rfl := Option.some.inj h
  exact r_ret mx_12 li_12_9 rfl rfl
theorem e_ex_init {d : Nat} (hd : 1 ≤ d) (p0 : Nat) (p1 : Nat) (M : Mem) (r : Mem) (h : f_ex_init p0 p1 M = some r) : EV d 13 0 (entL 2 [.ref p0, .ref p1]) [] M (none, r) := by
  show EV d 13 0 [some (.ref p0), some (.ref p1)] [] M _
  unfold f_ex_init at h
  refine EV_stq mx_13 (pc' := 1) (L' := [some (.ref p0), some (.ref p1)]) (st' := [.ref p0]) bo_13_0_8d5162 rfl ?_
  refine r_oi mx_13 li_13_1 si_12_3 rfl (by omega) (Nat.le_of_ble_eq_true rfl) ?_
  refine EV_stq mx_13 (pc' := 7) (L' := [some (.ref p0), some (.ref p1)]) (st' := [.int (8 : Int32), .ref p0]) bo_13_4_40e659 rfl ?_
  refine r_nA mx_13 li_13_7 (by decide) h (fun a1 M2 h => ?_)
  refine r_pR mx_13 li_13_9 fd_12_9 (Or.inr ⟨rfl, rfl, rfl⟩) rfl h (fun M3 h => ?_)
  refine EV_stq mx_13 (pc' := 15) (L' := [some (.ref p0), some (.ref p1)]) (st' := [.int (8 : Int32), .ref p0]) bo_13_12_1089ca rfl ?_
  refine r_nA mx_13 li_13_15 (by decide) h (fun a4 M5 h => ?_)
  refine r_pR mx_13 li_13_17 fd_12_15 (Or.inr ⟨rfl, rfl, rfl⟩) rfl h (fun M6 h => ?_)
  refine EV_stq mx_13 (pc' := 22) (L' := [some (.ref p0), some (.ref p1)]) (st' := [.ref p1, .ref p0]) bo_13_20_aa2fda rfl ?_
  refine r_pR mx_13 li_13_22 fd_12_18 (Or.inr ⟨rfl, rfl, rfl⟩) rfl h (fun M7 h => ?_)
  obtain rfl := Option.some.inj h
  exact r_ret mx_13 li_13_25 rfl rfl
theorem e_x_init {d : Nat} (hd : 5 ≤ d) (p0 : Nat) (M : Mem) (r : Mem) (h : f_x_init p0 M = some r) : EV d 14 0 (entL 1 [.ref p0]) [] M (none, r) := by
  show EV d 14 0 [some (.ref p0)] [] M _
  unfold f_x_init at h
  refine EV_stq mx_14 (pc' := 1) (L' := [some (.ref p0)]) (st' := [.ref p0]) bo_14_0_8d5162 rfl ?_
  refine r_oi mx_14 li_14_1 si_13_1 rfl (by omega) (Nat.le_of_ble_eq_true rfl) ?_
  refine EV_stq mx_14 (pc' := 5) (L' := [some (.ref p0)]) (st' := [.ref p0]) bo_14_4_e962e2 rfl ?_
  refine r_nO mx_14 li_14_5 nw_13_7 h (fun a1 M2 h => ?_)
  refine EV_stq mx_14 (pc' := 9) (L' := [some (.ref p0)]) (st' := [.ref a1, .ref a1, .ref p0]) bo_14_8_383530 rfl ?_
  refine h_cV h (fun M3 e h => ?_)
  refine EV_call [.ref a1] [.ref a1, .ref p0] mx_14 li_14_9 rfl rfl si_13_9 rfl (by decide) (by decide) (by omega) ma_1 rfl (Nat.le_of_ble_eq_true rfl) rfl rfl (Nat.le_of_ble_eq_true rfl) rfl (e_sb_init (by omega) a1 M2 _ e) ?_
  show EV d 14 12 [some (.ref p0)] [.ref a1, .ref p0] M3 _
  refine r_pR mx_14 li_14_12 fd_13_10 (Or.inr ⟨rfl, rfl, rfl⟩) rfl h (fun M4 h => ?_)
  refine EV_stq mx_14 (pc' := 16) (L' := [some (.ref p0)]) (st' := [.ref p0]) bo_14_15_be4250 rfl ?_
  refine r_nO mx_14 li_14_16 nw_13_7 h (fun a5 M6 h => ?_)
  refine EV_stq mx_14 (pc' := 20) (L' := [some (.ref p0)]) (st' := [.ref a5, .ref a5, .ref p0]) bo_14_19_1a8444 rfl ?_
  refine h_cV h (fun M7 e h => ?_)
  refine EV_call [.ref a5] [.ref a5, .ref p0] mx_14 li_14_20 rfl rfl si_13_9 rfl (by decide) (by decide) (by omega) ma_1 rfl (Nat.le_of_ble_eq_true rfl) rfl rfl (Nat.le_of_ble_eq_true rfl) rfl (e_sb_init (by omega) a5 M6 _ e) ?_
  show EV d 14 23 [some (.ref p0)] [.ref a5, .ref p0] M7 _
  refine r_pR mx_14 li_14_23 fd_13_16 (Or.inr ⟨rfl, rfl, rfl⟩) rfl h (fun M8 h => ?_)
  refine EV_stq mx_14 (pc' := 27) (L' := [some (.ref p0)]) (st' := [.ref p0]) bo_14_26_bd3b31 rfl ?_
  refine r_nO mx_14 li_14_27 nw_13_19 h (fun a9 M10 h => ?_)
  refine EV_stq mx_14 (pc' := 32) (L' := [some (.ref p0)]) (st' := [.ref p0, .ref a9, .ref a9, .ref p0]) bo_14_30_e4fc54 rfl ?_
  refine r_gA mx_14 li_14_32 fd_13_10 rfl h (fun a11 h => ?_)
  refine h_cV h (fun M12 e h => ?_)
  refine EV_call [.ref a9, .ref a11] [.ref a9, .ref p0] mx_14 li_14_35 rfl rfl si_13_21 rfl (by decide) (by decide) (by omega) ma_2 rfl (Nat.le_of_ble_eq_true rfl) rfl rfl (Nat.le_of_ble_eq_true rfl) rfl (e_rd_init (by omega) a9 a11 M10 _ e) ?_
  show EV d 14 38 [some (.ref p0)] [.ref a9, .ref p0] M12 _
  refine r_pR mx_14 li_14_38 fd_13_24 (Or.inr ⟨rfl, rfl, rfl⟩) rfl h (fun M13 h => ?_)
  refine EV_stq mx_14 (pc' := 42) (L' := [some (.ref p0)]) (st' := [.ref p0]) bo_14_41_45abaf rfl ?_
  refine r_nO mx_14 li_14_42 nw_13_28 h (fun a14 M15 h => ?_)
  refine EV_stq mx_14 (pc' := 46) (L' := [some (.ref p0)]) (st' := [.ref a14, .ref a14, .ref p0]) bo_14_45_8e29f2 rfl ?_
  refine h_cV h (fun M16 e h => ?_)
  refine EV_call [.ref a14] [.ref a14, .ref p0] mx_14 li_14_46 rfl rfl si_13_30 rfl (by decide) (by decide) (by omega) ma_11 rfl (Nat.le_of_ble_eq_true rfl) rfl rfl (Nat.le_of_ble_eq_true rfl) rfl (e_sm_init (by omega) a14 M15 _ e) ?_
  show EV d 14 49 [some (.ref p0)] [.ref a14, .ref p0] M16 _
  refine r_pR mx_14 li_14_49 fd_13_31 (Or.inr ⟨rfl, rfl, rfl⟩) rfl h (fun M17 h => ?_)
  refine EV_stq mx_14 (pc' := 53) (L' := [some (.ref p0)]) (st' := [.ref p0]) bo_14_52_118d3f rfl ?_
  refine r_nO mx_14 li_14_53 nw_13_35 h (fun a18 M19 h => ?_)
  refine EV_stq mx_14 (pc' := 58) (L' := [some (.ref p0)]) (st' := [.ref p0, .ref a18, .ref a18, .ref p0]) bo_14_56_ba4435 rfl ?_
  refine r_gA mx_14 li_14_58 fd_13_31 rfl h (fun a20 h => ?_)
  refine h_cV h (fun M21 e h => ?_)
  refine EV_call [.ref a18, .ref a20] [.ref a18, .ref p0] mx_14 li_14_61 rfl rfl si_13_37 rfl (by decide) (by decide) (by omega) ma_12 rfl (Nat.le_of_ble_eq_true rfl) rfl rfl (Nat.le_of_ble_eq_true rfl) rfl (e_pl_init (by omega) a18 a20 M19 _ e) ?_
  show EV d 14 64 [some (.ref p0)] [.ref a18, .ref p0] M21 _
  refine r_pR mx_14 li_14_64 fd_13_40 (Or.inr ⟨rfl, rfl, rfl⟩) rfl h (fun M22 h => ?_)
  refine EV_stq mx_14 (pc' := 68) (L' := [some (.ref p0)]) (st' := [.ref p0]) bo_14_67_ded3a4 rfl ?_
  refine r_nO mx_14 li_14_68 nw_13_44 h (fun a23 M24 h => ?_)
  refine EV_stq mx_14 (pc' := 73) (L' := [some (.ref p0)]) (st' := [.ref p0, .ref a23, .ref a23, .ref p0]) bo_14_71_0bf829 rfl ?_
  refine r_gA mx_14 li_14_73 fd_13_31 rfl h (fun a25 h => ?_)
  refine h_cV h (fun M26 e h => ?_)
  refine EV_call [.ref a23, .ref a25] [.ref a23, .ref p0] mx_14 li_14_76 rfl rfl si_13_46 rfl (by decide) (by decide) (by omega) ma_13 rfl (Nat.le_of_ble_eq_true rfl) rfl rfl (Nat.le_of_ble_eq_true rfl) rfl (e_ex_init (by omega) a23 a25 M24 _ e) ?_
  show EV d 14 79 [some (.ref p0)] [.ref a23, .ref p0] M26 _
  refine r_pR mx_14 li_14_79 fd_13_47 (Or.inr ⟨rfl, rfl, rfl⟩) rfl h (fun M27 h => ?_)
  obtain rfl := Option.some.inj h
  exact r_ret mx_14 li_14_82 rfl rfl
theorem e_m_init {d : Nat} (hd : 1 ≤ d) (p0 : Nat) (M : Mem) (r : Mem) (h : f_m_init p0 M = some r) : EV d 15 0 (entL 1 [.ref p0]) [] M (none, r) := by
  show EV d 15 0 [some (.ref p0)] [] M _
  unfold f_m_init at h
  refine EV_stq mx_15 (pc' := 1) (L' := [some (.ref p0)]) (st' := [.ref p0]) bo_15_0_8d5162 rfl ?_
  refine r_oi mx_15 li_15_1 si_14_3 rfl (by omega) (Nat.le_of_ble_eq_true rfl) ?_
  refine EV_stq mx_15 (pc' := 7) (L' := [some (.ref p0)]) (st' := [.int (60 : Int32), .ref p0]) bo_15_4_40e659 rfl ?_
  refine r_nA mx_15 li_15_7 (by decide) h (fun a1 M2 h => ?_)
  refine r_pR mx_15 li_15_9 fd_14_9 (Or.inr ⟨rfl, rfl, rfl⟩) rfl h (fun M3 h => ?_)
  refine EV_stq mx_15 (pc' := 15) (L' := [some (.ref p0)]) (st' := [.int (6 : Int32), .ref p0]) bo_15_12_1089ca rfl ?_
  refine r_nA mx_15 li_15_15 (by decide) h (fun a4 M5 h => ?_)
  refine r_pR mx_15 li_15_17 fd_14_13 (Or.inr ⟨rfl, rfl, rfl⟩) rfl h (fun M6 h => ?_)
  refine EV_stq mx_15 (pc' := 23) (L' := [some (.ref p0)]) (st' := [.int (6 : Int32), .ref p0]) bo_15_20_aa2fda rfl ?_
  refine r_nA mx_15 li_15_23 (by decide) h (fun a7 M8 h => ?_)
  refine r_pR mx_15 li_15_25 fd_14_16 (Or.inr ⟨rfl, rfl, rfl⟩) rfl h (fun M9 h => ?_)
  refine EV_stq mx_15 (pc' := 31) (L' := [some (.ref p0)]) (st' := [.int (6 : Int32), .ref p0]) bo_15_28_533662 rfl ?_
  refine r_nA mx_15 li_15_31 (by decide) h (fun a10 M11 h => ?_)
  refine r_pR mx_15 li_15_33 fd_14_19 (Or.inr ⟨rfl, rfl, rfl⟩) rfl h (fun M12 h => ?_)
  refine EV_stq mx_15 (pc' := 39) (L' := [some (.ref p0)]) (st' := [.int (6 : Int32), .ref p0]) bo_15_36_285c9e rfl ?_
  refine r_nA mx_15 li_15_39 (by decide) h (fun a13 M14 h => ?_)
  refine r_pR mx_15 li_15_41 fd_14_22 (Or.inr ⟨rfl, rfl, rfl⟩) rfl h (fun M15 h => ?_)
  refine EV_stq mx_15 (pc' := 46) (L' := [some (.ref p0)]) (st' := [.int (2 : Int32), .ref p0]) bo_15_44_e175ea rfl ?_
  refine r_pI mx_15 li_15_46 fd_14_25 (Or.inl rfl) rfl h (fun M16 h => ?_)
  refine EV_stq mx_15 (pc' := 51) (L' := [some (.ref p0)]) (st' := [.int (3 : Int32), .ref p0]) bo_15_49_23be2b rfl ?_
  refine r_pI mx_15 li_15_51 fd_14_29 (Or.inl rfl) rfl h (fun M17 h => ?_)
  refine EV_stq mx_15 (pc' := 56) (L' := [some (.ref p0)]) (st' := [.int (2 : Int32), .ref p0]) bo_15_54_a3ab7c rfl ?_
  refine r_pI mx_15 li_15_56 fd_14_32 (Or.inl rfl) rfl h (fun M18 h => ?_)
  refine EV_stq mx_15 (pc' := 61) (L' := [some (.ref p0)]) (st' := [.int (2 : Int32), .ref p0]) bo_15_59_d0b94e rfl ?_
  refine r_pI mx_15 li_15_61 fd_14_35 (Or.inl rfl) rfl h (fun M19 h => ?_)
  refine EV_stq mx_15 (pc' := 67) (L' := [some (.ref p0)]) (st' := [.int (60 : Int32), .ref p0]) bo_15_64_23d05d rfl ?_
  refine r_nA mx_15 li_15_67 (by decide) h (fun a20 M21 h => ?_)
  refine r_pR mx_15 li_15_69 fd_14_38 (Or.inr ⟨rfl, rfl, rfl⟩) rfl h (fun M22 h => ?_)
  refine EV_stq mx_15 (pc' := 75) (L' := [some (.ref p0)]) (st' := [.int (60 : Int32), .ref p0]) bo_15_72_215158 rfl ?_
  refine r_nA mx_15 li_15_75 (by decide) h (fun a23 M24 h => ?_)
  refine r_pR mx_15 li_15_77 fd_14_41 (Or.inr ⟨rfl, rfl, rfl⟩) rfl h (fun M25 h => ?_)
  refine EV_stq mx_15 (pc' := 83) (L' := [some (.ref p0)]) (st' := [.int (6 : Int32), .ref p0]) bo_15_80_944268 rfl ?_
  refine r_nA mx_15 li_15_83 (by decide) h (fun a26 M27 h => ?_)
  refine r_pR mx_15 li_15_85 fd_14_44 (Or.inr ⟨rfl, rfl, rfl⟩) rfl h (fun M28 h => ?_)
  refine EV_stq mx_15 (pc' := 91) (L' := [some (.ref p0)]) (st' := [.int (6 : Int32), .ref p0]) bo_15_88_700d2f rfl ?_
  refine r_nA mx_15 li_15_91 (by decide) h (fun a29 M30 h => ?_)
  refine r_pR mx_15 li_15_93 fd_14_47 (Or.inr ⟨rfl, rfl, rfl⟩) rfl h (fun M31 h => ?_)
  refine EV_stq mx_15 (pc' := 99) (L' := [some (.ref p0)]) (st' := [.int (6 : Int32), .ref p0]) bo_15_96_31fd26 rfl ?_
  refine r_nA mx_15 li_15_99 (by decide) h (fun a32 M33 h => ?_)
  refine r_pR mx_15 li_15_101 fd_14_50 (Or.inr ⟨rfl, rfl, rfl⟩) rfl h (fun M34 h => ?_)
  refine EV_stq mx_15 (pc' := 107) (L' := [some (.ref p0)]) (st' := [.int (6 : Int32), .ref p0]) bo_15_104_df8874 rfl ?_
  refine r_nA mx_15 li_15_107 (by decide) h (fun a35 M36 h => ?_)
  refine r_pR mx_15 li_15_109 fd_14_53 (Or.inr ⟨rfl, rfl, rfl⟩) rfl h (fun M37 h => ?_)
  refine EV_stq mx_15 (pc' := 115) (L' := [some (.ref p0)]) (st' := [.int (96 : Int32), .ref p0]) bo_15_112_dbfc8f rfl ?_
  refine r_nA mx_15 li_15_115 (by decide) h (fun a38 M39 h => ?_)
  refine r_pR mx_15 li_15_117 fd_14_56 (Or.inr ⟨rfl, rfl, rfl⟩) rfl h (fun M40 h => ?_)
  refine EV_stq mx_15 (pc' := 123) (L' := [some (.ref p0)]) (st' := [.int (96 : Int32), .ref p0]) bo_15_120_572ad1 rfl ?_
  refine r_nA mx_15 li_15_123 (by decide) h (fun a41 M42 h => ?_)
  refine r_pR mx_15 li_15_125 fd_14_60 (Or.inr ⟨rfl, rfl, rfl⟩) rfl h (fun M43 h => ?_)
  refine EV_stq mx_15 (pc' := 131) (L' := [some (.ref p0)]) (st' := [.int (96 : Int32), .ref p0]) bo_15_128_29389d rfl ?_
  refine r_nA mx_15 li_15_131 (by decide) h (fun a44 M45 h => ?_)
  refine r_pR mx_15 li_15_133 fd_14_63 (Or.inr ⟨rfl, rfl, rfl⟩) rfl h (fun M46 h => ?_)
  refine EV_stq mx_15 (pc' := 139) (L' := [some (.ref p0)]) (st' := [.int (96 : Int32), .ref p0]) bo_15_136_77463b rfl ?_
  refine r_nA mx_15 li_15_139 (by decide) h (fun a47 M48 h => ?_)
  refine r_pR mx_15 li_15_141 fd_14_66 (Or.inr ⟨rfl, rfl, rfl⟩) rfl h (fun M49 h => ?_)
  refine EV_stq mx_15 (pc' := 147) (L' := [some (.ref p0)]) (st' := [.int (96 : Int32), .ref p0]) bo_15_144_322ea6 rfl ?_
  refine r_nA mx_15 li_15_147 (by decide) h (fun a50 M51 h => ?_)
  refine r_pR mx_15 li_15_149 fd_14_69 (Or.inr ⟨rfl, rfl, rfl⟩) rfl h (fun M52 h => ?_)
  refine EV_stq mx_15 (pc' := 155) (L' := [some (.ref p0)]) (st' := [.int (96 : Int32), .ref p0]) bo_15_152_0a2aa9 rfl ?_
  refine r_nA mx_15 li_15_155 (by decide) h (fun a53 M54 h => ?_)
  refine r_pR mx_15 li_15_157 fd_14_72 (Or.inr ⟨rfl, rfl, rfl⟩) rfl h (fun M55 h => ?_)
  refine EV_stq mx_15 (pc' := 163) (L' := [some (.ref p0)]) (st' := [.int (96 : Int32), .ref p0]) bo_15_160_31e032 rfl ?_
  refine r_nA mx_15 li_15_163 (by decide) h (fun a56 M57 h => ?_)
  refine r_pR mx_15 li_15_165 fd_14_75 (Or.inr ⟨rfl, rfl, rfl⟩) rfl h (fun M58 h => ?_)
  refine EV_stq mx_15 (pc' := 171) (L' := [some (.ref p0)]) (st' := [.int (96 : Int32), .ref p0]) bo_15_168_f9fe1f rfl ?_
  refine r_nA mx_15 li_15_171 (by decide) h (fun a59 M60 h => ?_)
  refine r_pR mx_15 li_15_173 fd_14_78 (Or.inr ⟨rfl, rfl, rfl⟩) rfl h (fun M61 h => ?_)
  refine EV_stq mx_15 (pc' := 179) (L' := [some (.ref p0)]) (st' := [.int (96 : Int32), .ref p0]) bo_15_176_138b94 rfl ?_
  refine r_nA mx_15 li_15_179 (by decide) h (fun a62 M63 h => ?_)
  refine r_pR mx_15 li_15_181 fd_14_81 (Or.inr ⟨rfl, rfl, rfl⟩) rfl h (fun M64 h => ?_)
  refine EV_stq mx_15 (pc' := 187) (L' := [some (.ref p0)]) (st' := [.int (18 : Int32), .ref p0]) bo_15_184_353ce1 rfl ?_
  refine r_nA mx_15 li_15_187 (by decide) h (fun a65 M66 h => ?_)
  refine r_pR mx_15 li_15_189 fd_14_84 (Or.inr ⟨rfl, rfl, rfl⟩) rfl h (fun M67 h => ?_)
  refine EV_stq mx_15 (pc' := 195) (L' := [some (.ref p0)]) (st' := [.int (18 : Int32), .ref p0]) bo_15_192_3c3630 rfl ?_
  refine r_nA mx_15 li_15_195 (by decide) h (fun a68 M69 h => ?_)
  refine r_pR mx_15 li_15_197 fd_14_87 (Or.inr ⟨rfl, rfl, rfl⟩) rfl h (fun M70 h => ?_)
  refine EV_stq mx_15 (pc' := 203) (L' := [some (.ref p0)]) (st' := [.int (18 : Int32), .ref p0]) bo_15_200_300131 rfl ?_
  refine r_nA mx_15 li_15_203 (by decide) h (fun a71 M72 h => ?_)
  refine r_pR mx_15 li_15_205 fd_14_90 (Or.inr ⟨rfl, rfl, rfl⟩) rfl h (fun M73 h => ?_)
  refine EV_stq mx_15 (pc' := 211) (L' := [some (.ref p0)]) (st' := [.int (18 : Int32), .ref p0]) bo_15_208_2f5ac8 rfl ?_
  refine r_nA mx_15 li_15_211 (by decide) h (fun a74 M75 h => ?_)
  refine r_pR mx_15 li_15_213 fd_14_93 (Or.inr ⟨rfl, rfl, rfl⟩) rfl h (fun M76 h => ?_)
  refine EV_stq mx_15 (pc' := 219) (L' := [some (.ref p0)]) (st' := [.int (54 : Int32), .ref p0]) bo_15_216_04c04a rfl ?_
  refine r_nA mx_15 li_15_219 (by decide) h (fun a77 M78 h => ?_)
  refine r_pR mx_15 li_15_221 fd_14_96 (Or.inr ⟨rfl, rfl, rfl⟩) rfl h (fun M79 h => ?_)
  refine EV_stq mx_15 (pc' := 227) (L' := [some (.ref p0)]) (st' := [.int (54 : Int32), .ref p0]) bo_15_224_019829 rfl ?_
  refine r_nA mx_15 li_15_227 (by decide) h (fun a80 M81 h => ?_)
  refine r_pR mx_15 li_15_229 fd_14_99 (Or.inr ⟨rfl, rfl, rfl⟩) rfl h (fun M82 h => ?_)
  refine EV_stq mx_15 (pc' := 235) (L' := [some (.ref p0)]) (st' := [.int (54 : Int32), .ref p0]) bo_15_232_f658ea rfl ?_
  refine r_nA mx_15 li_15_235 (by decide) h (fun a83 M84 h => ?_)
  refine r_pR mx_15 li_15_237 fd_14_102 (Or.inr ⟨rfl, rfl, rfl⟩) rfl h (fun M85 h => ?_)
  refine EV_stq mx_15 (pc' := 243) (L' := [some (.ref p0)]) (st' := [.int (18 : Int32), .ref p0]) bo_15_240_969ae2 rfl ?_
  refine r_nA mx_15 li_15_243 (by decide) h (fun a86 M87 h => ?_)
  refine r_pR mx_15 li_15_245 fd_14_105 (Or.inr ⟨rfl, rfl, rfl⟩) rfl h (fun M88 h => ?_)
  refine EV_stq mx_15 (pc' := 251) (L' := [some (.ref p0)]) (st' := [.int (18 : Int32), .ref p0]) bo_15_248_dbf957 rfl ?_
  refine r_nA mx_15 li_15_251 (by decide) h (fun a89 M90 h => ?_)
  refine r_pR mx_15 li_15_253 fd_14_108 (Or.inr ⟨rfl, rfl, rfl⟩) rfl h (fun M91 h => ?_)
  refine EV_stq mx_15 (pc' := 259) (L' := [some (.ref p0)]) (st' := [.int (18 : Int32), .ref p0]) bo_15_256_5f42aa rfl ?_
  refine r_nA mx_15 li_15_259 (by decide) h (fun a92 M93 h => ?_)
  refine r_pR mx_15 li_15_261 fd_14_111 (Or.inr ⟨rfl, rfl, rfl⟩) rfl h (fun M94 h => ?_)
  refine EV_stq mx_15 (pc' := 267) (L' := [some (.ref p0)]) (st' := [.int (54 : Int32), .ref p0]) bo_15_264_507d26 rfl ?_
  refine r_nA mx_15 li_15_267 (by decide) h (fun a95 M96 h => ?_)
  refine r_pR mx_15 li_15_269 fd_14_114 (Or.inr ⟨rfl, rfl, rfl⟩) rfl h (fun M97 h => ?_)
  refine EV_stq mx_15 (pc' := 275) (L' := [some (.ref p0)]) (st' := [.int (54 : Int32), .ref p0]) bo_15_272_ec4040 rfl ?_
  refine r_nA mx_15 li_15_275 (by decide) h (fun a98 M99 h => ?_)
  refine r_pR mx_15 li_15_277 fd_14_117 (Or.inr ⟨rfl, rfl, rfl⟩) rfl h (fun M100 h => ?_)
  refine EV_stq mx_15 (pc' := 284) (L' := [some (.ref p0)]) (st' := [.int (216 : Int32), .ref p0]) bo_15_280_b8a032 rfl ?_
  refine r_nA mx_15 li_15_284 (by decide) h (fun a101 M102 h => ?_)
  refine r_pR mx_15 li_15_286 fd_14_120 (Or.inr ⟨rfl, rfl, rfl⟩) rfl h (fun M103 h => ?_)
  refine EV_stq mx_15 (pc' := 293) (L' := [some (.ref p0)]) (st' := [.int (216 : Int32), .ref p0]) bo_15_289_4d4886 rfl ?_
  refine r_nA mx_15 li_15_293 (by decide) h (fun a104 M105 h => ?_)
  refine r_pR mx_15 li_15_295 fd_14_123 (Or.inr ⟨rfl, rfl, rfl⟩) rfl h (fun M106 h => ?_)
  refine EV_stq mx_15 (pc' := 302) (L' := [some (.ref p0)]) (st' := [.int (216 : Int32), .ref p0]) bo_15_298_794375 rfl ?_
  refine r_nA mx_15 li_15_302 (by decide) h (fun a107 M108 h => ?_)
  refine r_pR mx_15 li_15_304 fd_14_126 (Or.inr ⟨rfl, rfl, rfl⟩) rfl h (fun M109 h => ?_)
  refine EV_stq mx_15 (pc' := 310) (L' := [some (.ref p0)]) (st' := [.int (54 : Int32), .ref p0]) bo_15_307_669b03 rfl ?_
  refine r_nA mx_15 li_15_310 (by decide) h (fun a110 M111 h => ?_)
  refine r_pR mx_15 li_15_312 fd_14_129 (Or.inr ⟨rfl, rfl, rfl⟩) rfl h (fun M112 h => ?_)
  refine EV_stq mx_15 (pc' := 318) (L' := [some (.ref p0)]) (st' := [.int (54 : Int32), .ref p0]) bo_15_315_a97b9a rfl ?_
  refine r_nA mx_15 li_15_318 (by decide) h (fun a113 M114 h => ?_)
  refine r_pR mx_15 li_15_320 fd_14_132 (Or.inr ⟨rfl, rfl, rfl⟩) rfl h (fun M115 h => ?_)
  refine EV_stq mx_15 (pc' := 327) (L' := [some (.ref p0)]) (st' := [.int (216 : Int32), .ref p0]) bo_15_323_31c3ba rfl ?_
  refine r_nA mx_15 li_15_327 (by decide) h (fun a116 M117 h => ?_)
  refine r_pR mx_15 li_15_329 fd_14_135 (Or.inr ⟨rfl, rfl, rfl⟩) rfl h (fun M118 h => ?_)
  refine EV_stq mx_15 (pc' := 336) (L' := [some (.ref p0)]) (st' := [.int (864 : Int32), .ref p0]) bo_15_332_4fd653 rfl ?_
  refine r_nA mx_15 li_15_336 (by decide) h (fun a119 M120 h => ?_)
  refine r_pR mx_15 li_15_338 fd_14_138 (Or.inr ⟨rfl, rfl, rfl⟩) rfl h (fun M121 h => ?_)
  refine EV_stq mx_15 (pc' := 345) (L' := [some (.ref p0)]) (st' := [.int (864 : Int32), .ref p0]) bo_15_341_4749bb rfl ?_
  refine r_nA mx_15 li_15_345 (by decide) h (fun a122 M123 h => ?_)
  refine r_pR mx_15 li_15_347 fd_14_141 (Or.inr ⟨rfl, rfl, rfl⟩) rfl h (fun M124 h => ?_)
  refine EV_stq mx_15 (pc' := 354) (L' := [some (.ref p0)]) (st' := [.int (864 : Int32), .ref p0]) bo_15_350_091fa1 rfl ?_
  refine r_nA mx_15 li_15_354 (by decide) h (fun a125 M126 h => ?_)
  refine r_pR mx_15 li_15_356 fd_14_144 (Or.inr ⟨rfl, rfl, rfl⟩) rfl h (fun M127 h => ?_)
  refine EV_stq mx_15 (pc' := 362) (L' := [some (.ref p0)]) (st' := [.int (40000 : Int32), .ref p0]) bo_15_359_0e9f6a rfl ?_
  refine r_nA mx_15 li_15_362 (by decide) h (fun a128 M129 h => ?_)
  refine r_pR mx_15 li_15_364 fd_14_148 (Or.inr ⟨rfl, rfl, rfl⟩) rfl h (fun M130 h => ?_)
  refine EV_stq mx_15 (pc' := 370) (L' := [some (.ref p0)]) (st' := [.int (6 : Int32), .ref p0]) bo_15_367_4d3148 rfl ?_
  refine r_nA mx_15 li_15_370 (by decide) h (fun a131 M132 h => ?_)
  refine r_pR mx_15 li_15_372 fd_14_151 (Or.inr ⟨rfl, rfl, rfl⟩) rfl h (fun M133 h => ?_)
  refine EV_stq mx_15 (pc' := 378) (L' := [some (.ref p0)]) (st' := [.int (6 : Int32), .ref p0]) bo_15_375_255f65 rfl ?_
  refine r_nA mx_15 li_15_378 (by decide) h (fun a134 M135 h => ?_)
  refine r_pR mx_15 li_15_380 fd_14_154 (Or.inr ⟨rfl, rfl, rfl⟩) rfl h (fun M136 h => ?_)
  refine EV_stq mx_15 (pc' := 386) (L' := [some (.ref p0)]) (st' := [.int (6 : Int32), .ref p0]) bo_15_383_6485da rfl ?_
  refine r_nA mx_15 li_15_386 (by decide) h (fun a137 M138 h => ?_)
  refine r_pR mx_15 li_15_388 fd_14_157 (Or.inr ⟨rfl, rfl, rfl⟩) rfl h (fun M139 h => ?_)
  refine EV_stq mx_15 (pc' := 394) (L' := [some (.ref p0)]) (st' := [.int (6 : Int32), .ref p0]) bo_15_391_29fa6d rfl ?_
  refine r_nA mx_15 li_15_394 (by decide) h (fun a140 M141 h => ?_)
  refine r_pR mx_15 li_15_396 fd_14_160 (Or.inr ⟨rfl, rfl, rfl⟩) rfl h (fun M142 h => ?_)
  refine EV_stq mx_15 (pc' := 401) (L' := [some (.ref p0)]) (st' := [.int (3 : Int32), .ref p0]) bo_15_399_9b72be rfl ?_
  refine r_nA mx_15 li_15_401 (by decide) h (fun a143 M144 h => ?_)
  refine r_pR mx_15 li_15_403 fd_14_163 (Or.inr ⟨rfl, rfl, rfl⟩) rfl h (fun M145 h => ?_)
  refine EV_stq mx_15 (pc' := 408) (L' := [some (.ref p0)]) (st' := [.int (3 : Int32), .ref p0]) bo_15_406_52b0b9 rfl ?_
  refine r_nA mx_15 li_15_408 (by decide) h (fun a146 M147 h => ?_)
  refine r_pR mx_15 li_15_410 fd_14_166 (Or.inr ⟨rfl, rfl, rfl⟩) rfl h (fun M148 h => ?_)
  refine EV_stq mx_15 (pc' := 416) (L' := [some (.ref p0)]) (st' := [.int (96 : Int32), .ref p0]) bo_15_413_6c5e7c rfl ?_
  refine r_nA mx_15 li_15_416 (by decide) h (fun a149 M150 h => ?_)
  refine r_pR mx_15 li_15_418 fd_14_169 (Or.inr ⟨rfl, rfl, rfl⟩) rfl h (fun M151 h => ?_)
  refine EV_stq mx_15 (pc' := 424) (L' := [some (.ref p0)]) (st' := [.int (96 : Int32), .ref p0]) bo_15_421_dcaafe rfl ?_
  refine r_nA mx_15 li_15_424 (by decide) h (fun a152 M153 h => ?_)
  refine r_pR mx_15 li_15_426 fd_14_172 (Or.inr ⟨rfl, rfl, rfl⟩) rfl h (fun M154 h => ?_)
  refine EV_stq mx_15 (pc' := 432) (L' := [some (.ref p0)]) (st' := [.int (96 : Int32), .ref p0]) bo_15_429_d23cf9 rfl ?_
  refine r_nA mx_15 li_15_432 (by decide) h (fun a155 M156 h => ?_)
  refine r_pR mx_15 li_15_434 fd_14_175 (Or.inr ⟨rfl, rfl, rfl⟩) rfl h (fun M157 h => ?_)
  refine EV_stq mx_15 (pc' := 440) (L' := [some (.ref p0)]) (st' := [.int (30 : Int32), .ref p0]) bo_15_437_c068d0 rfl ?_
  refine r_nA mx_15 li_15_440 (by decide) h (fun a158 M159 h => ?_)
  refine r_pR mx_15 li_15_442 fd_14_178 (Or.inr ⟨rfl, rfl, rfl⟩) rfl h (fun M160 h => ?_)
  refine EV_stq mx_15 (pc' := 448) (L' := [some (.ref p0)]) (st' := [.int (30 : Int32), .ref p0]) bo_15_445_829854 rfl ?_
  refine r_nA mx_15 li_15_448 (by decide) h (fun a161 M162 h => ?_)
  refine r_pR mx_15 li_15_450 fd_14_181 (Or.inr ⟨rfl, rfl, rfl⟩) rfl h (fun M163 h => ?_)
  refine EV_stq mx_15 (pc' := 456) (L' := [some (.ref p0)]) (st' := [.int (30 : Int32), .ref p0]) bo_15_453_3f2489 rfl ?_
  refine r_nA mx_15 li_15_456 (by decide) h (fun a164 M165 h => ?_)
  refine r_pR mx_15 li_15_458 fd_14_184 (Or.inr ⟨rfl, rfl, rfl⟩) rfl h (fun M166 h => ?_)
  refine EV_stq mx_15 (pc' := 464) (L' := [some (.ref p0)]) (st' := [.int (8 : Int32), .ref p0]) bo_15_461_cb74a8 rfl ?_
  refine r_nA mx_15 li_15_464 (by decide) h (fun a167 M168 h => ?_)
  refine r_pR mx_15 li_15_466 fd_14_187 (Or.inr ⟨rfl, rfl, rfl⟩) rfl h (fun M169 h => ?_)
  refine EV_stq mx_15 (pc' := 472) (L' := [some (.ref p0)]) (st' := [.int (8 : Int32), .ref p0]) bo_15_469_799eac rfl ?_
  refine r_nA mx_15 li_15_472 (by decide) h (fun a170 M171 h => ?_)
  refine r_pR mx_15 li_15_474 fd_14_190 (Or.inr ⟨rfl, rfl, rfl⟩) rfl h (fun M172 h => ?_)
  refine EV_stq mx_15 (pc' := 480) (L' := [some (.ref p0)]) (st' := [.int (80 : Int32), .ref p0]) bo_15_477_756e4c rfl ?_
  refine r_nA mx_15 li_15_480 (by decide) h (fun a173 M174 h => ?_)
  refine r_pR mx_15 li_15_482 fd_14_193 (Or.inr ⟨rfl, rfl, rfl⟩) rfl h (fun M175 h => ?_)
  refine EV_stq mx_15 (pc' := 486) (L' := [some (.ref p0)]) (st' := [.ref p0]) bo_15_485_2ab3ea rfl ?_
  refine r_gA mx_15 li_15_486 fd_14_13 rfl h (fun a176 h => ?_)
  refine EV_stq mx_15 (pc' := 492) (L' := [some (.ref p0)]) (st' := [.int (7 : Int32), .int (0 : Int32), .ref a176]) bo_15_489_2ef75b rfl ?_
  refine r_sI mx_15 li_15_492 h (fun M177 h => ?_)
  refine EV_stq mx_15 (pc' := 494) (L' := [some (.ref p0)]) (st' := [.ref p0]) bo_15_493_a2142d rfl ?_
  refine r_gA mx_15 li_15_494 fd_14_13 rfl h (fun a178 h => ?_)
  refine EV_stq mx_15 (pc' := 500) (L' := [some (.ref p0)]) (st' := [.int (8 : Int32), .int (1 : Int32), .ref a178]) bo_15_497_3572d4 rfl ?_
  refine r_sI mx_15 li_15_500 h (fun M179 h => ?_)
  refine EV_stq mx_15 (pc' := 502) (L' := [some (.ref p0)]) (st' := [.ref p0]) bo_15_501_871575 rfl ?_
  refine r_gA mx_15 li_15_502 fd_14_22 rfl h (fun a180 h => ?_)
  refine EV_stq mx_15 (pc' := 507) (L' := [some (.ref p0)]) (st' := [.int (1 : Int32), .int (0 : Int32), .ref a180]) bo_15_505_820943 rfl ?_
  refine r_sI mx_15 li_15_507 h (fun M181 h => ?_)
  refine EV_stq mx_15 (pc' := 509) (L' := [some (.ref p0)]) (st' := [.ref p0]) bo_15_508_afb1b7 rfl ?_
  refine r_gA mx_15 li_15_509 fd_14_22 rfl h (fun a182 h => ?_)
  refine EV_stq mx_15 (pc' := 514) (L' := [some (.ref p0)]) (st' := [.int (1 : Int32), .int (1 : Int32), .ref a182]) bo_15_512_359a03 rfl ?_
  refine r_sI mx_15 li_15_514 h (fun M183 h => ?_)
  obtain rfl := Option.some.inj h
  exact r_ret mx_15 li_15_515 rfl rfl
theorem e_ab_length {d : Nat} (hd : 0 ≤ d) (p0 : Nat) (M : Mem) (r : Int32 × Mem) (h : f_ab_length p0 M = some r) : EV d 16 0 (entL 1 [.ref p0]) [] M (some (.int r.1), r.2) := by
  show EV d 16 0 [some (.ref p0)] [] M _
  unfold f_ab_length at h
  refine EV_stq mx_16 (pc' := 1) (L' := [some (.ref p0)]) (st' := [.ref p0]) bo_16_0_8d5162 rfl ?_
  refine r_gI mx_16 li_16_1 fd_0_79 ⟨by decide, by decide⟩ h (fun v1 h => ?_)
  obtain rfl := Option.some.inj h
  exact r_ret mx_16 li_16_4 rfl ro_int
theorem e_sb_length {d : Nat} (hd : 1 ≤ d) (p0 : Nat) (M : Mem) (r : Int32 × Mem) (h : f_sb_length p0 M = some r) : EV d 17 0 (entL 1 [.ref p0]) [] M (some (.int r.1), r.2) := by
  show EV d 17 0 [some (.ref p0)] [] M _
  unfold f_sb_length at h
  refine EV_stq mx_17 (pc' := 1) (L' := [some (.ref p0)]) (st' := [.ref p0]) bo_17_0_8d5162 rfl ?_
  refine h_ck h (fun hc h => ?_)
  refine h_cI h (fun v2 M1 e h => ?_)
  refine EV_call [.ref p0] [] mx_17 li_17_1 rfl rfl si_1_343 rfl (by decide) (by decide) (by omega) ma_16 rfl (Nat.le_of_ble_eq_true rfl) rfl rfl (Nat.le_of_ble_eq_true rfl) (rc_34 (by decide) hc) (e_ab_length (by omega) p0 M _ e) ?_
  show EV d 17 4 [some (.ref p0)] [.int v2] M1 _
  obtain rfl := Option.some.inj h
  exact r_ret mx_17 li_17_4 rfl ro_int
theorem e_ma_max {d : Nat} (hd : 0 ≤ d) (p0 : Int32) (p1 : Int32) (M : Mem) (r : Int32 × Mem) (h : f_ma_max p0 p1 M = some r) : EV d 18 0 (entL 2 [.int p0, .int p1]) [] M (some (.int r.1), r.2) := by
  show EV d 18 0 [some (.int p0), some (.int p1)] [] M _
  unfold f_ma_max at h
  refine EV_stq mx_18 (pc' := 2) (L' := [some (.int p0), some (.int p1)]) (st' := [.int p1, .int p0]) bo_18_0_264884 rfl ?_
  refine h_lt h (fun h hc => ?_) (fun h hc => ?_)
  · refine r_icT mx_18 li_18_2 (by decide) rfl hc ?_
    refine EV_stq mx_18 (pc' := 10) (L' := [some (.int p0), some (.int p1)]) (st' := [.int p1]) bo_18_9_afbef6 rfl ?_
    obtain rfl := Option.some.inj h
    exact r_ret mx_18 li_18_10 rfl ro_int
  · refine r_icF mx_18 li_18_2 (by decide) hc ?_
    refine EV_stq mx_18 (pc' := 10) (L' := [some (.int p0), some (.int p1)]) (st' := [.int p0]) bo_18_5_ca77c4 rfl ?_
    obtain rfl := Option.some.inj h
    exact r_ret mx_18 li_18_10 rfl ro_int
theorem e_as_newLength {d : Nat} (hd : 1 ≤ d) (p0 : Int32) (p1 : Int32) (p2 : Int32) (M : Mem) (r : Int32 × Mem) (h : f_as_newLength p0 p1 p2 M = some r) : EV d 19 0 (entL 4 [.int p0, .int p1, .int p2]) [] M (some (.int r.1), r.2) := by
  show EV d 19 0 [some (.int p0), some (.int p1), some (.int p2), none] [] M _
  unfold f_as_newLength at h
  refine EV_stq mx_19 (pc' := 3) (L' := [some (.int p0), some (.int p1), some (.int p2), none]) (st' := [.int p2, .int p1, .int p0]) bo_19_0_8b3750 rfl ?_
  refine h_cI h (fun v2 M1 e h => ?_)
  refine EV_call [.int p1, .int p2] [.int p0] mx_19 li_19_3 rfl rfl si_16_194 rfl (by decide) (by decide) (by omega) ma_18 rfl (Nat.le_of_ble_eq_true rfl) rfl rfl (Nat.le_of_ble_eq_true rfl) rfl (e_ma_max (by omega) p1 p2 M _ e) ?_
  show EV d 19 6 [some (.int p0), some (.int p1), some (.int p2), none] [.int v2, .int p0] M1 _
  refine EV_stq mx_19 (pc' := 10) (L' := [some (.int p0), some (.int p1), some (.int p2), some (.int (p0 + v2))]) (st' := [.int (p0 + v2), .int (0 : Int32)]) bo_19_6_edcc51 rfl ?_
  refine h_ge h (fun h hc => ?_) (fun h hc => ?_)
  · refine r_icT mx_19 li_19_10 (by decide) rfl hc ?_
    cases h
  · refine r_icF mx_19 li_19_10 (by decide) hc ?_
    refine EV_stq mx_19 (pc' := 16) (L' := [some (.int p0), some (.int p1), some (.int p2), some (.int (p0 + v2))]) (st' := [.int (2147483639 : Int32), .int (p0 + v2)]) bo_19_13_1f05a9 rfl ?_
    refine h_gt h (fun h hc => ?_) (fun h hc => ?_)
    · refine r_icT mx_19 li_19_16 (by decide) rfl hc ?_
      cases h
    · refine r_icF mx_19 li_19_16 (by decide) hc ?_
      refine EV_stq mx_19 (pc' := 20) (L' := [some (.int p0), some (.int p1), some (.int p2), some (.int (p0 + v2))]) (st' := [.int (p0 + v2)]) bo_19_19_1a8444 rfl ?_
      obtain rfl := Option.some.inj h
      exact r_ret mx_19 li_19_20 rfl ro_int
theorem e_ab_newCapacity {d : Nat} (hd : 2 ≤ d) (p0 : Nat) (p1 : Int32) (M : Mem) (r : Int32 × Mem) (h : f_ab_newCapacity p0 p1 M = some r) : EV d 20 0 (entL 6 [.ref p0, .int p1]) [] M (some (.int r.1), r.2) := by
  show EV d 20 0 [some (.ref p0), some (.int p1), none, none, none, none] [] M _
  unfold f_ab_newCapacity at h
  refine EV_stq mx_20 (pc' := 1) (L' := [some (.ref p0), some (.int p1), none, none, none, none]) (st' := [.ref p0]) bo_20_0_8d5162 rfl ?_
  refine r_gA mx_20 li_20_1 fd_0_15 rfl h (fun a1 h => ?_)
  refine r_aN mx_20 li_20_4 h (fun v2 h => ?_)
  refine EV_stq mx_20 (pc' := 8) (L' := [some (.ref p0), some (.int p1), some (.int v2), none, none, none]) (st' := [.ref p0, .int p1]) bo_20_5_d472e4 rfl ?_
  refine r_gI mx_20 li_20_8 fd_0_22 ⟨by decide, by decide⟩ h (fun v3 h => ?_)
  refine EV_stq mx_20 (pc' := 24) (L' := [some (.ref p0), some (.int p1), some (.int v2), some (.int (p1 <<< (v3 &&& 31))), some (.int ((p1 <<< (v3 &&& 31)) - v2)), none]) (st' := [.ref p0, .int (2 : Int32), .int v2, .int ((p1 <<< (v3 &&& 31)) - v2), .int v2]) bo_20_11_2bff2d rfl ?_
  refine r_gI mx_20 li_20_24 fd_0_22 ⟨by decide, by decide⟩ h (fun v4 h => ?_)
  refine EV_stq mx_20 (pc' := 29) (L' := [some (.ref p0), some (.int p1), some (.int v2), some (.int (p1 <<< (v3 &&& 31))), some (.int ((p1 <<< (v3 &&& 31)) - v2)), none]) (st' := [.int (v2 + ((2 : Int32) <<< (v4 &&& 31))), .int ((p1 <<< (v3 &&& 31)) - v2), .int v2]) bo_20_27_fe3fdb rfl ?_
  refine h_cI h (fun v6 M5 e h => ?_)
  refine EV_call [.int v2, .int ((p1 <<< (v3 &&& 31)) - v2), .int (v2 + ((2 : Int32) <<< (v4 &&& 31)))] [] mx_20 li_20_29 rfl rfl si_0_114 rfl (by decide) (by decide) (by omega) ma_19 rfl (Nat.le_of_ble_eq_true rfl) rfl rfl (Nat.le_of_ble_eq_true rfl) rfl (e_as_newLength (by omega) v2 ((p1 <<< (v3 &&& 31)) - v2) (v2 + ((2 : Int32) <<< (v4 &&& 31))) M _ e) ?_
  show EV d 20 32 [some (.ref p0), some (.int p1), some (.int v2), some (.int (p1 <<< (v3 &&& 31))), some (.int ((p1 <<< (v3 &&& 31)) - v2)), none] [.int v6] M5 _
  refine EV_stq mx_20 (pc' := 38) (L' := [some (.ref p0), some (.int p1), some (.int v2), some (.int (p1 <<< (v3 &&& 31))), some (.int ((p1 <<< (v3 &&& 31)) - v2)), some (.int v6)]) (st' := [.int (2147483647 : Int32), .int v6]) bo_20_32_ea5e48 rfl ?_
  refine h_ne h (fun h hc => ?_) (fun h hc => ?_)
  · refine r_icF mx_20 li_20_38 (by decide) hc ?_
    cases h
  · refine r_icT mx_20 li_20_38 (by decide) rfl hc ?_
    refine EV_stq mx_20 (pc' := 54) (L' := [some (.ref p0), some (.int p1), some (.int v2), some (.int (p1 <<< (v3 &&& 31))), some (.int ((p1 <<< (v3 &&& 31)) - v2)), some (.int v6)]) (st' := [.ref p0, .int v6]) bo_20_51_dd8b5c rfl ?_
    refine r_gI mx_20 li_20_54 fd_0_22 ⟨by decide, by decide⟩ h (fun v7 h => ?_)
    refine EV_stq mx_20 (pc' := 58) (L' := [some (.ref p0), some (.int p1), some (.int v2), some (.int (p1 <<< (v3 &&& 31))), some (.int ((p1 <<< (v3 &&& 31)) - v2)), some (.int v6)]) (st' := [.int (v6 >>> (v7 &&& 31))]) bo_20_57_a9d9a3 rfl ?_
    obtain rfl := Option.some.inj h
    exact r_ret mx_20 li_20_58 rfl ro_int
theorem e_ma_min {d : Nat} (hd : 0 ≤ d) (p0 : Int32) (p1 : Int32) (M : Mem) (r : Int32 × Mem) (h : f_ma_min p0 p1 M = some r) : EV d 21 0 (entL 2 [.int p0, .int p1]) [] M (some (.int r.1), r.2) := by
  show EV d 21 0 [some (.int p0), some (.int p1)] [] M _
  unfold f_ma_min at h
  refine EV_stq mx_21 (pc' := 2) (L' := [some (.int p0), some (.int p1)]) (st' := [.int p1, .int p0]) bo_21_0_264884 rfl ?_
  refine h_gt h (fun h hc => ?_) (fun h hc => ?_)
  · refine r_icT mx_21 li_21_2 (by decide) rfl hc ?_
    refine EV_stq mx_21 (pc' := 10) (L' := [some (.int p0), some (.int p1)]) (st' := [.int p1]) bo_21_9_afbef6 rfl ?_
    obtain rfl := Option.some.inj h
    exact r_ret mx_21 li_21_10 rfl ro_int
  · refine r_icF mx_21 li_21_2 (by decide) hc ?_
    refine EV_stq mx_21 (pc' := 10) (L' := [some (.int p0), some (.int p1)]) (st' := [.int p0]) bo_21_5_ca77c4 rfl ?_
    obtain rfl := Option.some.inj h
    exact r_ret mx_21 li_21_10 rfl ro_int
theorem e_ar_copyOf0 {d : Nat} (hd : 1 ≤ d) (p0 : Nat) (p1 : Int32) (M : Mem) (r : Option Nat × Mem) (h : f_ar_copyOf0 p0 p1 M = some r) : EV d 22 0 (entL 3 [.ref p0, .int p1]) [] M (some (rfv r.1), r.2) := by
  show EV d 22 0 [some (.ref p0), some (.int p1), none] [] M _
  unfold f_ar_copyOf0 at h
  refine EV_stq mx_22 (pc' := 2) (L' := [some (.ref p0), some (.int p1), none]) (st' := [.ref p0, .int p1]) bo_22_0_264884 rfl ?_
  refine r_aN mx_22 li_22_2 h (fun v1 h => ?_)
  refine h_ne h (fun h hc => ?_) (fun h hc => ?_)
  · refine r_icF mx_22 li_22_3 (by decide) hc ?_
    cases h
  · refine r_icT mx_22 li_22_3 (by decide) rfl hc ?_
    refine EV_stq mx_22 (pc' := 15) (L' := [some (.ref p0), some (.int p1), none]) (st' := [.int p1]) bo_22_14_3e81ce rfl ?_
    refine r_nA mx_22 li_22_15 (by decide) h (fun a2 M3 h => ?_)
    refine EV_stq mx_22 (pc' := 23) (L' := [some (.ref p0), some (.int p1), some (.ref a2)]) (st' := [.ref p0, .int (0 : Int32), .ref a2, .int (0 : Int32), .ref p0]) bo_22_17_9661cb rfl ?_
    refine r_aN mx_22 li_22_23 h (fun v4 h => ?_)
    refine EV_stq mx_22 (pc' := 25) (L' := [some (.ref p0), some (.int p1), some (.ref a2)]) (st' := [.int p1, .int v4, .int (0 : Int32), .ref a2, .int (0 : Int32), .ref p0]) bo_22_24_99aa1d rfl ?_
    refine h_cI h (fun v6 M5 e h => ?_)
    refine EV_call [.int v4, .int p1] [.int (0 : Int32), .ref a2, .int (0 : Int32), .ref p0] mx_22 li_22_25 rfl rfl si_17_304 rfl (by decide) (by decide) (by omega) ma_21 rfl (Nat.le_of_ble_eq_true rfl) rfl rfl (Nat.le_of_ble_eq_true rfl) rfl (e_ma_min (by omega) v4 p1 M3 _ e) ?_
    show EV d 22 28 [some (.ref p0), some (.int p1), some (.ref a2)] [.int v6, .int (0 : Int32), .ref a2, .int (0 : Int32), .ref p0] M5 _
    refine r_cp mx_22 li_22_28 si_17_150 rfl (by omega) (Nat.le_of_ble_eq_true rfl) h (fun M7 h => ?_)
    refine EV_stq mx_22 (pc' := 32) (L' := [some (.ref p0), some (.int p1), some (.ref a2)]) (st' := [.ref a2]) bo_22_31_c379e3 rfl ?_
    obtain rfl := Option.some.inj h
    exact r_ret mx_22 li_22_32 rfl rfl
theorem e_ab_ensureCapacityInternal {d : Nat} (hd : 3 ≤ d) (p0 : Nat) (p1 : Int32) (M : Mem) (r : Mem) (h : f_ab_ensureCapacityInternal p0 p1 M = some r) : EV d 23 0 (entL 3 [.ref p0, .int p1]) [] M (none, r) := by
  show EV d 23 0 [some (.ref p0), some (.int p1), none] [] M _
  unfold f_ab_ensureCapacityInternal at h
  refine EV_stq mx_23 (pc' := 1) (L' := [some (.ref p0), some (.int p1), none]) (st' := [.ref p0]) bo_23_0_8d5162 rfl ?_
  refine r_gA mx_23 li_23_1 fd_0_15 rfl h (fun a1 h => ?_)
  refine r_aN mx_23 li_23_4 h (fun v2 h => ?_)
  refine EV_stq mx_23 (pc' := 6) (L' := [some (.ref p0), some (.int p1), none]) (st' := [.ref p0, .int v2]) bo_23_5_7b98d2 rfl ?_
  refine r_gI mx_23 li_23_6 fd_0_22 ⟨by decide, by decide⟩ h (fun v3 h => ?_)
  refine EV_stq mx_23 (pc' := 14) (L' := [some (.ref p0), some (.int p1), some (.int (v2 >>> (v3 &&& 31)))]) (st' := [.int (p1 - (v2 >>> (v3 &&& 31)))]) bo_23_9_650742 rfl ?_
  refine h_le h (fun h hc => ?_) (fun h hc => ?_)
  · refine r_ifT mx_23 li_23_14 (by decide) rfl hc ?_
    obtain rfl := Option.some.inj h
    exact r_ret mx_23 li_23_38 rfl rfl
  · refine r_ifF mx_23 li_23_14 (by decide) hc ?_
    refine EV_stq mx_23 (pc' := 19) (L' := [some (.ref p0), some (.int p1), some (.int (v2 >>> (v3 &&& 31)))]) (st' := [.ref p0, .ref p0]) bo_23_17_03196b rfl ?_
    refine r_gA mx_23 li_23_19 fd_0_15 rfl h (fun a4 h => ?_)
    refine EV_stq mx_23 (pc' := 24) (L' := [some (.ref p0), some (.int p1), some (.int (v2 >>> (v3 &&& 31)))]) (st' := [.int p1, .ref p0, .ref a4, .ref p0]) bo_23_22_13b32e rfl ?_
    refine h_ck h (fun hc h => ?_)
    refine h_cI h (fun v6 M5 e h => ?_)
    refine EV_call [.ref p0, .int p1] [.ref a4, .ref p0] mx_23 li_23_24 rfl rfl si_0_104 rfl (by decide) (by decide) (by omega) ma_20 rfl (Nat.le_of_ble_eq_true rfl) rfl rfl (Nat.le_of_ble_eq_true rfl) (rc_34 (by decide) hc) (e_ab_newCapacity (by omega) p0 p1 M _ e) ?_
    show EV d 23 27 [some (.ref p0), some (.int p1), some (.int (v2 >>> (v3 &&& 31)))] [.int v6, .ref a4, .ref p0] M5 _
    refine EV_stq mx_23 (pc' := 28) (L' := [some (.ref p0), some (.int p1), some (.int (v2 >>> (v3 &&& 31)))]) (st' := [.ref p0, .int v6, .ref a4, .ref p0]) bo_23_27_58fada rfl ?_
    refine r_gI mx_23 li_23_28 fd_0_22 ⟨by decide, by decide⟩ h (fun v7 h => ?_)
    refine EV_stq mx_23 (pc' := 32) (L' := [some (.ref p0), some (.int p1), some (.int (v2 >>> (v3 &&& 31)))]) (st' := [.int (v6 <<< (v7 &&& 31)), .ref a4, .ref p0]) bo_23_31_c379e3 rfl ?_
    refine h_cR h (fun o9 M8 e h => ?_)
    refine EV_call [.ref a4, .int (v6 <<< (v7 &&& 31))] [.ref p0] mx_23 li_23_32 rfl rfl si_0_108 rfl (by decide) (by decide) (by omega) ma_22 rfl (Nat.le_of_ble_eq_true rfl) rfl rfl (Nat.le_of_ble_eq_true rfl) rfl (e_ar_copyOf0 (by omega) a4 (v6 <<< (v7 &&& 31)) M5 _ e) ?_
    refine h_onR (G := fun o => EV d 23 35 [some (.ref p0), some (.int p1), some (.int (v2 >>> (v3 &&& 31)))] [rfv o, .ref p0] M8 _) h (fun h => ?_) (fun a10 h => ?_)
    · cases h
    · refine r_pR mx_23 li_23_35 fd_0_15 (Or.inl rfl) rfl h (fun M12 h => ?_)
      obtain rfl := Option.some.inj h
      exact r_ret mx_23 li_23_38 rfl rfl
theorem e_ab_isLatin1 {d : Nat} (hd : 0 ≤ d) (p0 : Nat) (M : Mem) (r : Int32 × Mem) (h : f_ab_isLatin1 p0 M = some r) : EV d 24 0 (entL 1 [.ref p0]) [] M (some (.int r.1), r.2) := by
  show EV d 24 0 [some (.ref p0)] [] M _
  unfold f_ab_isLatin1 at h
  refine EV_stq mx_24 (pc' := 7) (L' := [some (.ref p0)]) (st' := [.ref p0]) bo_24_0_1808c0 rfl ?_
  refine r_gI mx_24 li_24_7 fd_0_22 ⟨by decide, by decide⟩ h (fun v1 h => ?_)
  refine h_ne h (fun h hc => ?_) (fun h hc => ?_)
  · refine r_ifF mx_24 li_24_10 (by decide) hc ?_
    refine EV_stq mx_24 (pc' := 18) (L' := [some (.ref p0)]) (st' := [.int (1 : Int32)]) bo_24_13_1f05a9 rfl ?_
    obtain rfl := Option.some.inj h
    exact r_ret mx_24 li_24_18 rfl (ro_nar (t := .boolean) (by decide) rfl)
  · refine r_ifT mx_24 li_24_10 (by decide) rfl hc ?_
    refine EV_stq mx_24 (pc' := 18) (L' := [some (.ref p0)]) (st' := [.int (0 : Int32)]) bo_24_17_509256 rfl ?_
    obtain rfl := Option.some.inj h
    exact r_ret mx_24 li_24_18 rfl (ro_nar (t := .boolean) (by decide) rfl)
theorem e_sl_canEncode0 {d : Nat} (hd : 0 ≤ d) (p0 : Int32) (M : Mem) (r : Int32 × Mem) (h : f_sl_canEncode0 p0 M = some r) : EV d 25 0 (entL 1 [.int p0]) [] M (some (.int r.1), r.2) := by
  show EV d 25 0 [some (.int p0)] [] M _
  unfold f_sl_canEncode0 at h
  refine EV_stq mx_25 (pc' := 4) (L' := [some (.int p0)]) (st' := [.int (255 : Int32), .int p0]) bo_25_0_264884 rfl ?_
  refine h_gt h (fun h hc => ?_) (fun h hc => ?_)
  · refine r_icT mx_25 li_25_4 (by decide) rfl hc ?_
    refine EV_stq mx_25 (pc' := 12) (L' := [some (.int p0)]) (st' := [.int (0 : Int32)]) bo_25_11_081257 rfl ?_
    obtain rfl := Option.some.inj h
    exact r_ret mx_25 li_25_12 rfl (ro_nar (t := .boolean) (by decide) rfl)
  · refine r_icF mx_25 li_25_4 (by decide) hc ?_
    refine EV_stq mx_25 (pc' := 12) (L' := [some (.int p0)]) (st' := [.int (1 : Int32)]) bo_25_7_7eef78 rfl ?_
    obtain rfl := Option.some.inj h
    exact r_ret mx_25 li_25_12 rfl (ro_nar (t := .boolean) (by decide) rfl)
theorem e_ab_append0_45 {d : Nat} (hd : 4 ≤ d) (l0 : Nat) (l1 : Int32) (M : Mem) (r : Option Nat × Mem) (h : f_ab_append0_45 l0 l1 M = some r) : EV d 26 45 [some (.ref l0), some (.int l1)] [] M (some (rfv r.1), r.2) := by
  unfold f_ab_append0_45 at h
  refine EV_stq mx_26 (pc' := 46) (L' := [some (.ref l0), some (.int l1)]) (st' := [.ref l0]) bo_26_45_8e29f2 rfl ?_
  refine h_ck h (fun hc h => ?_)
  refine h_cI h (fun v2 M1 e h => ?_)
  refine EV_call [.ref l0] [] mx_26 li_26_46 rfl rfl si_0_83 rfl (by decide) (by decide) (by omega) ma_24 rfl (Nat.le_of_ble_eq_true rfl) rfl rfl (Nat.le_of_ble_eq_true rfl) (rc_34 (by decide) hc) (e_ab_isLatin1 (by omega) l0 M _ e) ?_
  show EV d 26 49 [some (.ref l0), some (.int l1)] [.int v2] M1 _
  refine h_eq h (fun h hc => ?_) (fun h hc => ?_)
  · refine r_ifT mx_26 li_26_49 (by decide) rfl hc ?_
    refine EV_stq mx_26 (pc' := 57) (L' := [some (.ref l0), some (.int l1)]) (st' := [.ref l0]) bo_26_56_350148 rfl ?_
    refine r_gA mx_26 li_26_57 fd_0_15 rfl h (fun a3 h => ?_)
    refine EV_stq mx_26 (pc' := 62) (L' := [some (.ref l0), some (.int l1)]) (st' := [.ref l0, .ref l0, .ref a3]) bo_26_60_3e1655 rfl ?_
    refine r_gI mx_26 li_26_62 fd_0_79 ⟨by decide, by decide⟩ h (fun v4 h => ?_)
    refine EV_stq mx_26 (pc' := 68) (L' := [some (.ref l0), some (.int l1)]) (st' := [.int (v4 + (1 : Int32)), .ref l0, .int v4, .ref a3]) bo_26_65_b551c5 rfl ?_
    refine r_pI mx_26 li_26_68 fd_0_79 (Or.inl rfl) rfl h (fun M5 h => ?_)
    cases h
  · refine r_ifF mx_26 li_26_49 (by decide) hc ?_
    cases h
theorem e_ab_append0 {d : Nat} (hd : 4 ≤ d) (p0 : Nat) (p1 : Int32) (M : Mem) (r : Option Nat × Mem) (h : f_ab_append0 p0 p1 M = some r) : EV d 26 0 (entL 2 [.ref p0, .int p1]) [] M (some (rfv r.1), r.2) := by
  show EV d 26 0 [some (.ref p0), some (.int p1)] [] M _
  unfold f_ab_append0 at h
  refine EV_stq mx_26 (pc' := 2) (L' := [some (.ref p0), some (.int p1)]) (st' := [.ref p0, .ref p0]) bo_26_0_264884 rfl ?_
  refine r_gI mx_26 li_26_2 fd_0_79 ⟨by decide, by decide⟩ h (fun v1 h => ?_)
  refine EV_stq mx_26 (pc' := 7) (L' := [some (.ref p0), some (.int p1)]) (st' := [.int (v1 + (1 : Int32)), .ref p0]) bo_26_5_ca77c4 rfl ?_
  refine h_ck h (fun hc h => ?_)
  refine h_cV h (fun M2 e h => ?_)
  refine EV_call [.ref p0, .int (v1 + (1 : Int32))] [] mx_26 li_26_7 rfl rfl si_0_100 rfl (by decide) (by decide) (by omega) ma_23 rfl (Nat.le_of_ble_eq_true rfl) rfl rfl (Nat.le_of_ble_eq_true rfl) (rc_34 (by decide) hc) (e_ab_ensureCapacityInternal (by omega) p0 (v1 + (1 : Int32)) M _ e) ?_
  show EV d 26 10 [some (.ref p0), some (.int p1)] [] M2 _
  refine EV_stq mx_26 (pc' := 11) (L' := [some (.ref p0), some (.int p1)]) (st' := [.ref p0]) bo_26_10_2a30f5 rfl ?_
  refine h_ck h (fun hc h => ?_)
  refine h_cI h (fun v4 M3 e h => ?_)
  refine EV_call [.ref p0] [] mx_26 li_26_11 rfl rfl si_0_83 rfl (by decide) (by decide) (by omega) ma_24 rfl (Nat.le_of_ble_eq_true rfl) rfl rfl (Nat.le_of_ble_eq_true rfl) (rc_34 (by decide) hc) (e_ab_isLatin1 (by omega) p0 M2 _ e) ?_
  show EV d 26 14 [some (.ref p0), some (.int p1)] [.int v4] M3 _
  refine h_eq h (fun h hc => ?_) (fun h hc => ?_)
  · refine r_ifT mx_26 li_26_14 (by decide) rfl hc ?_
    exact e_ab_append0_45 hd p0 p1 M3 r h
  · refine r_ifF mx_26 li_26_14 (by decide) hc ?_
    refine EV_stq mx_26 (pc' := 18) (L' := [some (.ref p0), some (.int p1)]) (st' := [.int p1]) bo_26_17_509256 rfl ?_
    refine h_cI h (fun v6 M5 e h => ?_)
    refine EV_call [.int p1] [] mx_26 li_26_18 rfl rfl si_0_191 rfl (by decide) (by decide) (by omega) ma_25 rfl (Nat.le_of_ble_eq_true rfl) rfl rfl (Nat.le_of_ble_eq_true rfl) rfl (e_sl_canEncode0 (by omega) p1 M3 _ e) ?_
    show EV d 26 21 [some (.ref p0), some (.int p1)] [.int v6] M5 _
    refine h_eq h (fun h hc => ?_) (fun h hc => ?_)
    · refine r_ifT mx_26 li_26_21 (by decide) rfl hc ?_
      exact e_ab_append0_45 hd p0 p1 M5 r h
    · refine r_ifF mx_26 li_26_21 (by decide) hc ?_
      refine EV_stq mx_26 (pc' := 25) (L' := [some (.ref p0), some (.int p1)]) (st' := [.ref p0]) bo_26_24_99aa1d rfl ?_
      refine r_gA mx_26 li_26_25 fd_0_15 rfl h (fun a7 h => ?_)
      refine EV_stq mx_26 (pc' := 30) (L' := [some (.ref p0), some (.int p1)]) (st' := [.ref p0, .ref p0, .ref a7]) bo_26_28_533662 rfl ?_
      refine r_gI mx_26 li_26_30 fd_0_79 ⟨by decide, by decide⟩ h (fun v8 h => ?_)
      refine EV_stq mx_26 (pc' := 36) (L' := [some (.ref p0), some (.int p1)]) (st' := [.int (v8 + (1 : Int32)), .ref p0, .int v8, .ref a7]) bo_26_33_b93c6f rfl ?_
      refine r_pI mx_26 li_26_36 fd_0_79 (Or.inl rfl) rfl h (fun M9 h => ?_)
      refine EV_stq mx_26 (pc' := 41) (L' := [some (.ref p0), some (.int p1)]) (st' := [.int p1.toInt8.toInt32, .int v8, .ref a7]) bo_26_39_9c41c6 rfl ?_
      refine r_sB mx_26 li_26_41 h (fun M10 h => ?_)
      refine EV_stq mx_26 (pc' := 76) (L' := [some (.ref p0), some (.int p1)]) (st' := [.ref p0]) bo_26_42_02ab90 rfl ?_
      obtain rfl := Option.some.inj h
      exact r_ret mx_26 li_26_76 rfl rfl
theorem e_sb_append0 {d : Nat} (hd : 5 ≤ d) (p0 : Nat) (p1 : Int32) (M : Mem) (r : Option Nat × Mem) (h : f_sb_append0 p0 p1 M = some r) : EV d 27 0 (entL 2 [.ref p0, .int p1]) [] M (some (rfv r.1), r.2) := by
  show EV d 27 0 [some (.ref p0), some (.int p1)] [] M _
  unfold f_sb_append0 at h
  refine EV_stq mx_27 (pc' := 2) (L' := [some (.ref p0), some (.int p1)]) (st' := [.int p1, .ref p0]) bo_27_0_264884 rfl ?_
  refine h_ck h (fun hc h => ?_)
  refine h_cR h (fun o2 M1 e h => ?_)
  refine EV_call [.ref p0, .int p1] [] mx_27 li_27_2 rfl rfl si_1_50 rfl (by decide) (by decide) (by omega) ma_26 rfl (Nat.le_of_ble_eq_true rfl) rfl rfl (Nat.le_of_ble_eq_true rfl) (rc_34 (by decide) hc) (e_ab_append0 (by omega) p0 p1 M _ e) ?_
  refine h_onR (G := fun o => EV d 27 5 [some (.ref p0), some (.int p1)] [rfv o] M1 _) h (fun h => ?_) (fun a3 h => ?_)
  · refine EV_stq mx_27 (pc' := 7) (L' := [some (.ref p0), some (.int p1)]) (st' := [.ref p0]) bo_27_5_ca77c4 rfl ?_
    obtain rfl := Option.some.inj h
    exact r_ret mx_27 li_27_7 rfl rfl
  · refine EV_stq mx_27 (pc' := 7) (L' := [some (.ref p0), some (.int p1)]) (st' := [.ref p0]) bo_27_5_ca77c4 rfl ?_
    obtain rfl := Option.some.inj h
    exact r_ret mx_27 li_27_7 rfl rfl
theorem e_x_append_43 {d : Nat} (hd : 6 ≤ d) : ∀ (n : Nat) (l0 : Nat) (l1 : Int32) (l2 : Int32) (l3 : Int32) (M : Mem) (r : Int32 × Mem), f_x_append_43 n l0 l1 l2 l3 M = some r → EV d 28 43 [some (.ref l0), some (.int l1), some (.int l2), some (.int l3)] [] M (some (.int r.1), r.2) := by
  intro n
  induction n with
  | zero => intro l0 l1 l2 l3 M r h; cases h
  | succ n ih =>
    intro l0 l1 l2 l3 M r h
    unfold f_x_append_43 at h
    refine EV_stq mx_28 (pc' := 45) (L' := [some (.ref l0), some (.int l1), some (.int l2), some (.int l3)]) (st' := [.int l2, .int l3]) bo_28_43_98bd08 rfl ?_
    refine h_ge h (fun h hc => ?_) (fun h hc => ?_)
    · refine r_icT mx_28 li_28_45 (by decide) rfl hc ?_
      refine EV_stq mx_28 (pc' := 65) (L' := [some (.ref l0), some (.int l1), some (.int l2), some (.int l3)]) (st' := [.ref l0]) bo_28_64_446f01 rfl ?_
      refine r_gA mx_28 li_28_65 fd_13_10 rfl h (fun a1 h => ?_)
      refine h_ck h (fun hc h => ?_)
      refine h_cI h (fun v3 M2 e h => ?_)
      refine EV_call [.ref a1] [] mx_28 li_28_68 rfl rfl si_13_52 rfl (by decide) (by decide) (by omega) ma_17 rfl (Nat.le_of_ble_eq_true rfl) rfl rfl (Nat.le_of_ble_eq_true rfl) (rc_1 mt_at_17 rfl rfl (by decide) hc) (e_sb_length (by omega) a1 M _ e) ?_
      show EV d 28 71 [some (.ref l0), some (.int l1), some (.int l2), some (.int l3)] [.int v3] M2 _
      obtain rfl := Option.some.inj h
      exact r_ret mx_28 li_28_71 rfl ro_int
    · refine r_icF mx_28 li_28_45 (by decide) hc ?_
      refine EV_stq mx_28 (pc' := 49) (L' := [some (.ref l0), some (.int l1), some (.int l2), some (.int l3)]) (st' := [.ref l0]) bo_28_48_04c55a rfl ?_
      refine r_gA mx_28 li_28_49 fd_13_10 rfl h (fun a4 h => ?_)
      refine EV_stq mx_28 (pc' := 54) (L' := [some (.ref l0), some (.int l1), some (.int l2), some (.int l3)]) (st' := [.int (l1.toUInt32 % 65536).toInt32, .ref a4]) bo_28_52_9f6391 rfl ?_
      refine h_ck h (fun hc h => ?_)
      refine h_cR h (fun o6 M5 e h => ?_)
      refine EV_call [.ref a4, .int (l1.toUInt32 % 65536).toInt32] [] mx_28 li_28_54 rfl rfl si_13_57 rfl (by decide) (by decide) (by omega) ma_27 rfl (Nat.le_of_ble_eq_true rfl) rfl rfl (Nat.le_of_ble_eq_true rfl) (rc_1 mt_at_27 rfl rfl (by decide) hc) (e_sb_append0 (by omega) a4 (l1.toUInt32 % 65536).toInt32 M _ e) ?_
      refine h_onR (G := fun o => EV d 28 57 [some (.ref l0), some (.int l1), some (.int l2), some (.int l3)] [rfv o] M5 _) h (fun h => ?_) (fun a7 h => ?_)
      · refine EV_stq mx_28 (pc' := 43) (L' := [some (.ref l0), some (.int l1), some (.int l2), some (.int (l3 + (1 : Int32)))]) (st' := []) bo_28_57_59a03e rfl ?_
        exact ih l0 l1 l2 (l3 + (1 : Int32)) M5 r h
      · refine EV_stq mx_28 (pc' := 43) (L' := [some (.ref l0), some (.int l1), some (.int l2), some (.int (l3 + (1 : Int32)))]) (st' := []) bo_28_57_59a03e rfl ?_
        exact ih l0 l1 l2 (l3 + (1 : Int32)) M5 r h
theorem e_x_append {d : Nat} (hd : 6 ≤ d) (p0 : Nat) (p1 : Int32) (p2 : Int32) (M : Mem) (r : Int32 × Mem) (h : f_x_append p0 p1 p2 M = some r) : EV d 28 0 (entL 4 [.ref p0, .int p1, .int p2]) [] M (some (.int r.1), r.2) := by
  show EV d 28 0 [some (.ref p0), some (.int p1), some (.int p2), none] [] M _
  unfold f_x_append at h
  refine EV_stq mx_28 (pc' := 1) (L' := [some (.ref p0), some (.int p1), some (.int p2), none]) (st' := [.int p1]) bo_28_0_8d5162 rfl ?_
  refine h_lt h (fun h hc => ?_) (fun h hc => ?_)
  · refine r_ifT mx_28 li_28_1 (by decide) rfl hc ?_
    refine EV_stq mx_28 (pc' := 23) (L' := [some (.ref p0), some (.int p1), some (.int p2), none]) (st' := [.int (-1000000002 : Int32)]) bo_28_21_46c79c rfl ?_
    obtain rfl := Option.some.inj h
    exact r_ret mx_28 li_28_23 rfl ro_int
  · refine r_ifF mx_28 li_28_1 (by decide) hc ?_
    refine EV_stq mx_28 (pc' := 7) (L' := [some (.ref p0), some (.int p1), some (.int p2), none]) (st' := [.int (127 : Int32), .int p1]) bo_28_4_40e659 rfl ?_
    refine h_gt h (fun h hc => ?_) (fun h hc => ?_)
    · refine r_icT mx_28 li_28_7 (by decide) rfl hc ?_
      refine EV_stq mx_28 (pc' := 23) (L' := [some (.ref p0), some (.int p1), some (.int p2), none]) (st' := [.int (-1000000002 : Int32)]) bo_28_21_46c79c rfl ?_
      obtain rfl := Option.some.inj h
      exact r_ret mx_28 li_28_23 rfl ro_int
    · refine r_icF mx_28 li_28_7 (by decide) hc ?_
      refine EV_stq mx_28 (pc' := 12) (L' := [some (.ref p0), some (.int p1), some (.int p2), none]) (st' := [.int (1 : Int32), .int p2]) bo_28_10_42a704 rfl ?_
      refine h_lt h (fun h hc => ?_) (fun h hc => ?_)
      · refine r_icT mx_28 li_28_12 (by decide) rfl hc ?_
        refine EV_stq mx_28 (pc' := 23) (L' := [some (.ref p0), some (.int p1), some (.int p2), none]) (st' := [.int (-1000000002 : Int32)]) bo_28_21_46c79c rfl ?_
        obtain rfl := Option.some.inj h
        exact r_ret mx_28 li_28_23 rfl ro_int
      · refine r_icF mx_28 li_28_12 (by decide) hc ?_
        refine EV_stq mx_28 (pc' := 18) (L' := [some (.ref p0), some (.int p1), some (.int p2), none]) (st' := [.int (60 : Int32), .int p2]) bo_28_15_d45c32 rfl ?_
        refine h_le h (fun h hc => ?_) (fun h hc => ?_)
        · refine r_icT mx_28 li_28_18 (by decide) rfl hc ?_
          refine EV_stq mx_28 (pc' := 25) (L' := [some (.ref p0), some (.int p1), some (.int p2), none]) (st' := [.ref p0]) bo_28_24_99aa1d rfl ?_
          refine r_gA mx_28 li_28_25 fd_13_10 rfl h (fun a1 h => ?_)
          refine h_ck h (fun hc h => ?_)
          refine h_cI h (fun v3 M2 e h => ?_)
          refine EV_call [.ref a1] [] mx_28 li_28_28 rfl rfl si_13_52 rfl (by decide) (by decide) (by omega) ma_17 rfl (Nat.le_of_ble_eq_true rfl) rfl rfl (Nat.le_of_ble_eq_true rfl) (rc_1 mt_at_17 rfl rfl (by decide) hc) (e_sb_length (by omega) a1 M _ e) ?_
          show EV d 28 31 [some (.ref p0), some (.int p1), some (.int p2), none] [.int v3] M2 _
          refine EV_stq mx_28 (pc' := 35) (L' := [some (.ref p0), some (.int p1), some (.int p2), none]) (st' := [.int (60 : Int32), .int (v3 + p2)]) bo_28_31_d48d79 rfl ?_
          refine h_le h (fun h hc => ?_) (fun h hc => ?_)
          · refine r_icT mx_28 li_28_35 (by decide) rfl hc ?_
            refine EV_stq mx_28 (pc' := 43) (L' := [some (.ref p0), some (.int p1), some (.int p2), some (.int (0 : Int32))]) (st' := []) bo_28_41_4c2c9e rfl ?_
            exact e_x_append_43 hd FU p0 p1 p2 (0 : Int32) M2 r h
          · refine r_icF mx_28 li_28_35 (by decide) hc ?_
            refine EV_stq mx_28 (pc' := 40) (L' := [some (.ref p0), some (.int p1), some (.int p2), none]) (st' := [.int (-1000000003 : Int32)]) bo_28_38_c8c763 rfl ?_
            obtain rfl := Option.some.inj h
            exact r_ret mx_28 li_28_40 rfl ro_int
        · refine r_icF mx_28 li_28_18 (by decide) hc ?_
          refine EV_stq mx_28 (pc' := 23) (L' := [some (.ref p0), some (.int p1), some (.int p2), none]) (st' := [.int (-1000000002 : Int32)]) bo_28_21_46c79c rfl ?_
          obtain rfl := Option.some.inj h
          exact r_ret mx_28 li_28_23 rfl ro_int
theorem e_m_isIn {d : Nat} (hd : 0 ≤ d) (p0 : Int32) (p1 : Int32) (p2 : Int32) (M : Mem) (r : Int32 × Mem) (h : f_m_isIn p0 p1 p2 M = some r) : EV d 29 0 (entL 3 [.int p0, .int p1, .int p2]) [] M (some (.int r.1), r.2) := by
  show EV d 29 0 [some (.int p0), some (.int p1), some (.int p2)] [] M _
  unfold f_m_isIn at h
  refine EV_stq mx_29 (pc' := 2) (L' := [some (.int p0), some (.int p1), some (.int p2)]) (st' := [.int p1, .int p0]) bo_29_0_264884 rfl ?_
  refine h_lt h (fun h hc => ?_) (fun h hc => ?_)
  · refine r_icT mx_29 li_29_2 (by decide) rfl hc ?_
    refine EV_stq mx_29 (pc' := 15) (L' := [some (.int p0), some (.int p1), some (.int p2)]) (st' := [.int (0 : Int32)]) bo_29_14_3e81ce rfl ?_
    obtain rfl := Option.some.inj h
    exact r_ret mx_29 li_29_15 rfl (ro_nar (t := .boolean) (by decide) rfl)
  · refine r_icF mx_29 li_29_2 (by decide) hc ?_
    refine EV_stq mx_29 (pc' := 7) (L' := [some (.int p0), some (.int p1), some (.int p2)]) (st' := [.int p2, .int p0]) bo_29_5_ca77c4 rfl ?_
    refine h_gt h (fun h hc => ?_) (fun h hc => ?_)
    · refine r_icT mx_29 li_29_7 (by decide) rfl hc ?_
      refine EV_stq mx_29 (pc' := 15) (L' := [some (.int p0), some (.int p1), some (.int p2)]) (st' := [.int (0 : Int32)]) bo_29_14_3e81ce rfl ?_
      obtain rfl := Option.some.inj h
      exact r_ret mx_29 li_29_15 rfl (ro_nar (t := .boolean) (by decide) rfl)
    · refine r_icF mx_29 li_29_7 (by decide) hc ?_
      refine EV_stq mx_29 (pc' := 15) (L' := [some (.int p0), some (.int p1), some (.int p2)]) (st' := [.int (1 : Int32)]) bo_29_10_42a704 rfl ?_
      obtain rfl := Option.some.inj h
      exact r_ret mx_29 li_29_15 rfl (ro_nar (t := .boolean) (by decide) rfl)
theorem e_m_append_39 {d : Nat} (hd : 1 ≤ d) : ∀ (n : Nat) (l0 : Nat) (l1 : Int32) (l2 : Int32) (l3 : Int32) (M : Mem) (r : Int32 × Mem), f_m_append_39 n l0 l1 l2 l3 M = some r → EV d 30 39 [some (.ref l0), some (.int l1), some (.int l2), some (.int l3)] [] M (some (.int r.1), r.2) := by
  intro n
  induction n with
  | zero => intro l0 l1 l2 l3 M r h; cases h
  | succ n ih =>
    intro l0 l1 l2 l3 M r h
    unfold f_m_append_39 at h
    refine EV_stq mx_30 (pc' := 41) (L' := [some (.ref l0), some (.int l1), some (.int l2), some (.int l3)]) (st' := [.int l2, .int l3]) bo_30_39_9c41c6 rfl ?_
    refine h_ge h (fun h hc => ?_) (fun h hc => ?_)
    · refine r_icT mx_30 li_30_41 (by decide) rfl hc ?_
      refine EV_stq mx_30 (pc' := 71) (L' := [some (.ref l0), some (.int l1), some (.int l2), some (.int l3)]) (st' := [.ref l0]) bo_30_70_a81b5d rfl ?_
      refine r_gI mx_30 li_30_71 fd_14_208 ⟨by decide, by decide⟩ h (fun v1 h => ?_)
      obtain rfl := Option.some.inj h
      exact r_ret mx_30 li_30_74 rfl ro_int
    · refine r_icF mx_30 li_30_41 (by decide) hc ?_
      refine EV_stq mx_30 (pc' := 45) (L' := [some (.ref l0), some (.int l1), some (.int l2), some (.int l3)]) (st' := [.ref l0]) bo_30_44_56c0aa rfl ?_
      refine r_gA mx_30 li_30_45 fd_14_9 rfl h (fun a2 h => ?_)
      refine EV_stq mx_30 (pc' := 49) (L' := [some (.ref l0), some (.int l1), some (.int l2), some (.int l3)]) (st' := [.ref l0, .ref a2]) bo_30_48_04c55a rfl ?_
      refine r_gI mx_30 li_30_49 fd_14_208 ⟨by decide, by decide⟩ h (fun v3 h => ?_)
      refine EV_stq mx_30 (pc' := 53) (L' := [some (.ref l0), some (.int l1), some (.int l2), some (.int l3)]) (st' := [.int l1, .int v3, .ref a2]) bo_30_52_118d3f rfl ?_
      refine r_sI mx_30 li_30_53 h (fun M4 h => ?_)
      refine EV_stq mx_30 (pc' := 56) (L' := [some (.ref l0), some (.int l1), some (.int l2), some (.int l3)]) (st' := [.ref l0, .ref l0]) bo_30_54_a3ab7c rfl ?_
      refine r_gI mx_30 li_30_56 fd_14_208 ⟨by decide, by decide⟩ h (fun v5 h => ?_)
      refine EV_stq mx_30 (pc' := 61) (L' := [some (.ref l0), some (.int l1), some (.int l2), some (.int l3)]) (st' := [.int (v5 + (1 : Int32)), .ref l0]) bo_30_59_d0b94e rfl ?_
      refine r_pI mx_30 li_30_61 fd_14_208 (Or.inl rfl) rfl h (fun M6 h => ?_)
      refine EV_stq mx_30 (pc' := 39) (L' := [some (.ref l0), some (.int l1), some (.int l2), some (.int (l3 + (1 : Int32)))]) (st' := []) bo_30_64_f60358 rfl ?_
      exact ih l0 l1 l2 (l3 + (1 : Int32)) M6 r h
theorem e_m_append {d : Nat} (hd : 1 ≤ d) (p0 : Nat) (p1 : Int32) (p2 : Int32) (M : Mem) (r : Int32 × Mem) (h : f_m_append p0 p1 p2 M = some r) : EV d 30 0 (entL 4 [.ref p0, .int p1, .int p2]) [] M (some (.int r.1), r.2) := by
  show EV d 30 0 [some (.ref p0), some (.int p1), some (.int p2), none] [] M _
  unfold f_m_append at h
  refine EV_stq mx_30 (pc' := 4) (L' := [some (.ref p0), some (.int p1), some (.int p2), none]) (st' := [.int (127 : Int32), .int (0 : Int32), .int p1]) bo_30_0_8b3750 rfl ?_
  refine h_cI h (fun v2 M1 e h => ?_)
  refine EV_call [.int p1, .int (0 : Int32), .int (127 : Int32)] [] mx_30 li_30_4 rfl rfl si_14_203 rfl (by decide) (by decide) (by omega) ma_29 rfl (Nat.le_of_ble_eq_true rfl) rfl rfl (Nat.le_of_ble_eq_true rfl) rfl (e_m_isIn (by omega) p1 (0 : Int32) (127 : Int32) M _ e) ?_
  show EV d 30 7 [some (.ref p0), some (.int p1), some (.int p2), none] [.int v2] M1 _
  refine h_eq h (fun h hc => ?_) (fun h hc => ?_)
  · refine r_ifT mx_30 li_30_7 (by decide) rfl hc ?_
    refine EV_stq mx_30 (pc' := 22) (L' := [some (.ref p0), some (.int p1), some (.int p2), none]) (st' := [.int (-1000000002 : Int32)]) bo_30_20_baa9a0 rfl ?_
    obtain rfl := Option.some.inj h
    exact r_ret mx_30 li_30_22 rfl ro_int
  · refine r_ifF mx_30 li_30_7 (by decide) hc ?_
    refine EV_stq mx_30 (pc' := 14) (L' := [some (.ref p0), some (.int p1), some (.int p2), none]) (st' := [.int (60 : Int32), .int (1 : Int32), .int p2]) bo_30_10_4b0123 rfl ?_
    refine h_cI h (fun v4 M3 e h => ?_)
    refine EV_call [.int p2, .int (1 : Int32), .int (60 : Int32)] [] mx_30 li_30_14 rfl rfl si_14_203 rfl (by decide) (by decide) (by omega) ma_29 rfl (Nat.le_of_ble_eq_true rfl) rfl rfl (Nat.le_of_ble_eq_true rfl) rfl (e_m_isIn (by omega) p2 (1 : Int32) (60 : Int32) M1 _ e) ?_
    show EV d 30 17 [some (.ref p0), some (.int p1), some (.int p2), none] [.int v4] M3 _
    refine h_ne h (fun h hc => ?_) (fun h hc => ?_)
    · refine r_ifF mx_30 li_30_17 (by decide) hc ?_
      refine EV_stq mx_30 (pc' := 22) (L' := [some (.ref p0), some (.int p1), some (.int p2), none]) (st' := [.int (-1000000002 : Int32)]) bo_30_20_baa9a0 rfl ?_
      obtain rfl := Option.some.inj h
      exact r_ret mx_30 li_30_22 rfl ro_int
    · refine r_ifT mx_30 li_30_17 (by decide) rfl hc ?_
      refine EV_stq mx_30 (pc' := 24) (L' := [some (.ref p0), some (.int p1), some (.int p2), none]) (st' := [.ref p0]) bo_30_23_b37e12 rfl ?_
      refine r_gI mx_30 li_30_24 fd_14_208 ⟨by decide, by decide⟩ h (fun v5 h => ?_)
      refine EV_stq mx_30 (pc' := 31) (L' := [some (.ref p0), some (.int p1), some (.int p2), none]) (st' := [.int (60 : Int32), .int (v5 + p2)]) bo_30_27_655868 rfl ?_
      refine h_le h (fun h hc => ?_) (fun h hc => ?_)
      · refine r_icT mx_30 li_30_31 (by decide) rfl hc ?_
        refine EV_stq mx_30 (pc' := 39) (L' := [some (.ref p0), some (.int p1), some (.int p2), some (.int (0 : Int32))]) (st' := []) bo_30_37_b7e9cc rfl ?_
        exact e_m_append_39 hd FU p0 p1 p2 (0 : Int32) M3 r h
      · refine r_icF mx_30 li_30_31 (by decide) hc ?_
        refine EV_stq mx_30 (pc' := 36) (L' := [some (.ref p0), some (.int p1), some (.int p2), none]) (st' := [.int (-1000000003 : Int32)]) bo_30_34_130638 rfl ?_
        obtain rfl := Option.some.inj h
        exact r_ret mx_30 li_30_36 rfl ro_int
theorem e_pc_checkIndex {d : Nat} (hd : 0 ≤ d) (p0 : Int32) (p1 : Int32) (M : Mem) (r : Int32 × Mem) (h : f_pc_checkIndex p0 p1 M = some r) : EV d 31 0 (entL 3 [.int p0, .int p1, .retAddr 5]) [] M (some (.int r.1), r.2) := by
  show EV d 31 0 [some (.int p0), some (.int p1), some (.retAddr 5)] [] M _
  unfold f_pc_checkIndex at h
  refine EV_stq mx_31 (pc' := 1) (L' := [some (.int p0), some (.int p1), some (.retAddr 5)]) (st' := [.int p0]) bo_31_0_8d5162 rfl ?_
  refine h_lt h (fun h hc => ?_) (fun h hc => ?_)
  · refine r_ifT mx_31 li_31_1 (by decide) rfl hc ?_
    cases h
  · refine r_ifF mx_31 li_31_1 (by decide) hc ?_
    refine EV_stq mx_31 (pc' := 6) (L' := [some (.int p0), some (.int p1), some (.retAddr 5)]) (st' := [.int p1, .int p0]) bo_31_4_40e659 rfl ?_
    refine h_lt h (fun h hc => ?_) (fun h hc => ?_)
    · refine r_icT mx_31 li_31_6 (by decide) rfl hc ?_
      refine EV_stq mx_31 (pc' := 17) (L' := [some (.int p0), some (.int p1), some (.retAddr 5)]) (st' := [.int p0]) bo_31_16_862b1a rfl ?_
      obtain rfl := Option.some.inj h
      exact r_ret mx_31 li_31_17 rfl ro_int
    · refine r_icF mx_31 li_31_6 (by decide) hc ?_
      cases h
theorem e_st_checkIndex {d : Nat} (hd : 1 ≤ d) (p0 : Int32) (p1 : Int32) (M : Mem) (r : Mem) (h : f_st_checkIndex p0 p1 M = some r) : EV d 32 0 (entL 2 [.int p0, .int p1]) [] M (none, r) := by
  show EV d 32 0 [some (.int p0), some (.int p1)] [] M _
  unfold f_st_checkIndex at h
  refine EV_stq mx_32 (pc' := 5) (L' := [some (.int p0), some (.int p1)]) (st' := [.retAddr 5, .int p1, .int p0]) bo_32_0_8b3750 rfl ?_
  refine h_cI h (fun v2 M1 e h => ?_)
  refine EV_call [.int p0, .int p1, .retAddr 5] [] mx_32 li_32_5 rfl rfl si_20_1059 rfl (by decide) (by decide) (by omega) ma_31 rfl (Nat.le_of_ble_eq_true rfl) rfl rfl (Nat.le_of_ble_eq_true rfl) rfl (e_pc_checkIndex (by omega) p0 p1 M _ e) ?_
  show EV d 32 8 [some (.int p0), some (.int p1)] [.int v2] M1 _
  refine EV_stq mx_32 (pc' := 9) (L' := [some (.int p0), some (.int p1)]) (st' := []) bo_32_8_383530 rfl ?_
  obtain rfl := Option.some.inj h
  exact r_ret mx_32 li_32_9 rfl rfl
theorem e_ab_charAt {d : Nat} (hd : 2 ≤ d) (p0 : Nat) (p1 : Int32) (M : Mem) (r : Int32 × Mem) (h : f_ab_charAt p0 p1 M = some r) : EV d 33 0 (entL 5 [.ref p0, .int p1]) [] M (some (.int r.1), r.2) := by
  show EV d 33 0 [some (.ref p0), some (.int p1), none, none, none] [] M _
  unfold f_ab_charAt at h
  refine EV_stq mx_33 (pc' := 1) (L' := [some (.ref p0), some (.int p1), none, none, none]) (st' := [.ref p0]) bo_33_0_8d5162 rfl ?_
  refine r_gI mx_33 li_33_1 fd_0_22 ⟨by decide, by decide⟩ h (fun v1 h => ?_)
  refine EV_stq mx_33 (pc' := 6) (L' := [some (.ref p0), some (.int p1), some (.int v1), none, none]) (st' := [.ref p0]) bo_33_4_40e659 rfl ?_
  refine r_gA mx_33 li_33_6 fd_0_15 rfl h (fun a2 h => ?_)
  refine EV_stq mx_33 (pc' := 11) (L' := [some (.ref p0), some (.int p1), some (.int v1), some (.ref a2), none]) (st' := [.ref p0]) bo_33_9_16efa2 rfl ?_
  refine r_gI mx_33 li_33_11 fd_0_79 ⟨by decide, by decide⟩ h (fun v3 h => ?_)
  refine EV_stq mx_33 (pc' := 15) (L' := [some (.ref p0), some (.int p1), some (.int v1), some (.ref a2), none]) (st' := [.ref a2, .int v3]) bo_33_14_3e81ce rfl ?_
  refine r_aN mx_33 li_33_15 h (fun v4 h => ?_)
  refine EV_stq mx_33 (pc' := 18) (L' := [some (.ref p0), some (.int p1), some (.int v1), some (.ref a2), none]) (st' := [.int (v4 >>> (v1 &&& 31)), .int v3]) bo_33_16_f4f9fa rfl ?_
  refine h_cI h (fun v6 M5 e h => ?_)
  refine EV_call [.int v3, .int (v4 >>> (v1 &&& 31))] [] mx_33 li_33_18 rfl rfl si_0_138 rfl (by decide) (by decide) (by omega) ma_21 rfl (Nat.le_of_ble_eq_true rfl) rfl rfl (Nat.le_of_ble_eq_true rfl) rfl (e_ma_min (by omega) v3 (v4 >>> (v1 &&& 31)) M _ e) ?_
  show EV d 33 21 [some (.ref p0), some (.int p1), some (.int v1), some (.ref a2), none] [.int v6] M5 _
  refine EV_stq mx_33 (pc' := 26) (L' := [some (.ref p0), some (.int p1), some (.int v1), some (.ref a2), some (.int v6)]) (st' := [.int v6, .int p1]) bo_33_21_67cba4 rfl ?_
  refine h_cV h (fun M7 e h => ?_)
  refine EV_call [.int p1, .int v6] [] mx_33 li_33_26 rfl rfl si_0_144 rfl (by decide) (by decide) (by omega) ma_32 rfl (Nat.le_of_ble_eq_true rfl) rfl rfl (Nat.le_of_ble_eq_true rfl) rfl (e_st_checkIndex (by omega) p1 v6 M5 _ e) ?_
  show EV d 33 29 [some (.ref p0), some (.int p1), some (.int v1), some (.ref a2), some (.int v6)] [] M7 _
  refine EV_stq mx_33 (pc' := 30) (L' := [some (.ref p0), some (.int p1), some (.int v1), some (.ref a2), some (.int v6)]) (st' := [.int v1]) bo_33_29_2d7a5f rfl ?_
  refine h_ne h (fun h hc => ?_) (fun h hc => ?_)
  · refine r_ifF mx_33 li_33_30 (by decide) hc ?_
    refine EV_stq mx_33 (pc' := 35) (L' := [some (.ref p0), some (.int p1), some (.int v1), some (.ref a2), some (.int v6)]) (st' := [.int p1, .ref a2]) bo_33_33_9ed66c rfl ?_
    refine r_aB mx_33 li_33_35 h (fun v8 h => ?_)
    refine EV_stq mx_33 (pc' := 41) (L' := [some (.ref p0), some (.int p1), some (.int v1), some (.ref a2), some (.int v6)]) (st' := [.int ((v8 &&& (255 : Int32)).toUInt32 % 65536).toInt32]) bo_33_36_7d70ac rfl ?_
    refine h_nrZ h (fun hn h => ?_)
    obtain rfl := Option.some.inj h
    exact r_ret mx_33 li_33_41 rfl (ro_nar (t := .char) (by decide) hn)
  · refine r_ifT mx_33 li_33_30 (by decide) rfl hc ?_
    cases h
theorem e_sb_charAt {d : Nat} (hd : 3 ≤ d) (p0 : Nat) (p1 : Int32) (M : Mem) (r : Int32 × Mem) (h : f_sb_charAt p0 p1 M = some r) : EV d 34 0 (entL 2 [.ref p0, .int p1]) [] M (some (.int r.1), r.2) := by
  show EV d 34 0 [some (.ref p0), some (.int p1)] [] M _
  unfold f_sb_charAt at h
  refine EV_stq mx_34 (pc' := 2) (L' := [some (.ref p0), some (.int p1)]) (st' := [.int p1, .ref p0]) bo_34_0_264884 rfl ?_
  refine h_ck h (fun hc h => ?_)
  refine h_cI h (fun v2 M1 e h => ?_)
  refine EV_call [.ref p0, .int p1] [] mx_34 li_34_2 rfl rfl si_1_329 rfl (by decide) (by decide) (by omega) ma_33 rfl (Nat.le_of_ble_eq_true rfl) rfl rfl (Nat.le_of_ble_eq_true rfl) (rc_34 (by decide) hc) (e_ab_charAt (by omega) p0 p1 M _ e) ?_
  show EV d 34 5 [some (.ref p0), some (.int p1)] [.int v2] M1 _
  refine h_nrZ h (fun hn h => ?_)
  obtain rfl := Option.some.inj h
  exact r_ret mx_34 li_34_5 rfl (ro_nar (t := .char) (by decide) hn)
theorem e_rd_sign {d : Nat} (hd : 4 ≤ d) (p0 : Nat) (M : Mem) (r : Int32 × Mem) (h : f_rd_sign p0 M = some r) : EV d 35 0 (entL 1 [.ref p0]) [] M (some (.int r.1), r.2) := by
  show EV d 35 0 [some (.ref p0)] [] M _
  unfold f_rd_sign at h
  refine EV_stq mx_35 (pc' := 1) (L' := [some (.ref p0)]) (st' := [.ref p0]) bo_35_0_8d5162 rfl ?_
  refine r_gI mx_35 li_35_1 fd_2_28 ⟨by decide, by decide⟩ h (fun v1 h => ?_)
  refine h_lt h (fun h hc => ?_) (fun h hc => ?_)
  · refine r_ifT mx_35 li_35_4 (by decide) rfl hc ?_
    refine EV_stq mx_35 (pc' := 36) (L' := [some (.ref p0)]) (st' := [.int (-1 : Int32)]) bo_35_21_13696e rfl ?_
    obtain rfl := Option.some.inj h
    exact r_ret mx_35 li_35_36 rfl ro_int
  · refine r_ifF mx_35 li_35_4 (by decide) hc ?_
    refine EV_stq mx_35 (pc' := 8) (L' := [some (.ref p0)]) (st' := [.ref p0]) bo_35_7_9b264f rfl ?_
    refine r_gI mx_35 li_35_8 fd_2_28 ⟨by decide, by decide⟩ h (fun v2 h => ?_)
    refine EV_stq mx_35 (pc' := 12) (L' := [some (.ref p0)]) (st' := [.ref p0, .int v2]) bo_35_11_081257 rfl ?_
    refine r_gA mx_35 li_35_12 fd_2_24 rfl h (fun a3 h => ?_)
    refine h_ck h (fun hc h => ?_)
    refine h_cI h (fun v5 M4 e h => ?_)
    refine EV_call [.ref a3] [.int v2] mx_35 li_35_15 rfl rfl si_2_52 rfl (by decide) (by decide) (by omega) ma_17 rfl (Nat.le_of_ble_eq_true rfl) rfl rfl (Nat.le_of_ble_eq_true rfl) (rc_1 mt_at_17 rfl rfl (by decide) hc) (e_sb_length (by omega) a3 M _ e) ?_
    show EV d 35 18 [some (.ref p0)] [.int v5, .int v2] M4 _
    refine h_lt h (fun h hc => ?_) (fun h hc => ?_)
    · refine r_icT mx_35 li_35_18 (by decide) rfl hc ?_
      refine EV_stq mx_35 (pc' := 26) (L' := [some (.ref p0)]) (st' := [.ref p0]) bo_35_25_1858f6 rfl ?_
      refine r_gA mx_35 li_35_26 fd_2_24 rfl h (fun a6 h => ?_)
      refine EV_stq mx_35 (pc' := 30) (L' := [some (.ref p0)]) (st' := [.ref p0, .ref a6]) bo_35_29_2d7a5f rfl ?_
      refine r_gI mx_35 li_35_30 fd_2_28 ⟨by decide, by decide⟩ h (fun v7 h => ?_)
      refine h_ck h (fun hc h => ?_)
      refine h_cI h (fun v9 M8 e h => ?_)
      refine EV_call [.ref a6, .int v7] [] mx_35 li_35_33 rfl rfl si_2_57 rfl (by decide) (by decide) (by omega) ma_34 rfl (Nat.le_of_ble_eq_true rfl) rfl rfl (Nat.le_of_ble_eq_true rfl) (rc_1 mt_at_34 rfl rfl (by decide) hc) (e_sb_charAt (by omega) a6 v7 M4 _ e) ?_
      show EV d 35 36 [some (.ref p0)] [.int v9] M8 _
      obtain rfl := Option.some.inj h
      exact r_ret mx_35 li_35_36 rfl ro_int
    · refine r_icF mx_35 li_35_18 (by decide) hc ?_
      refine EV_stq mx_35 (pc' := 36) (L' := [some (.ref p0)]) (st' := [.int (-1 : Int32)]) bo_35_21_13696e rfl ?_
      obtain rfl := Option.some.inj h
      exact r_ret mx_35 li_35_36 rfl ro_int
theorem e_st_isLatin1 {d : Nat} (hd : 0 ≤ d)  (M : Mem) (r : Int32 × Mem) (h : f_st_isLatin1  M = some r) : EV d 36 0 (entL 1 [.retAddr 3]) [] M (some (.int r.1), r.2) := by
  show EV d 36 0 [some (.retAddr 3)] [] M _
  unfold f_st_isLatin1 at h
  refine EV_stq mx_36 (pc' := 18) (L' := [some (.retAddr 3)]) (st' := [.int (1 : Int32)]) bo_36_0_30af70 rfl ?_
  obtain rfl := Option.some.inj h
  exact r_ret mx_36 li_36_18 rfl (ro_nar (t := .boolean) (by decide) rfl)
theorem e_st_coder {d : Nat} (hd : 0 ≤ d)  (M : Mem) (r : Int32 × Mem) (h : f_st_coder  M = some r) : EV d 37 0 (entL 1 [.retAddr 3]) [] M (some (.int r.1), r.2) := by
  show EV d 37 0 [some (.retAddr 3)] [] M _
  unfold f_st_coder at h
  refine EV_stq mx_37 (pc' := 14) (L' := [some (.retAddr 3)]) (st' := [.int (0 : Int32)]) bo_37_0_78d030 rfl ?_
  obtain rfl := Option.some.inj h
  exact r_ret mx_37 li_37_14 rfl (ro_nar (t := .byte) (by decide) rfl)
theorem e_st_length {d : Nat} (hd : 1 ≤ d)  (M : Mem) (r : Int32 × Mem) (h : f_st_length  M = some r) : EV d 38 0 (entL 1 [.retAddr 3]) [] M (some (.int r.1), r.2) := by
  show EV d 38 0 [some (.retAddr 3)] [] M _
  unfold f_st_length at h
  refine EV_stq mx_38 (pc' := 6) (L' := [some (.retAddr 3)]) (st' := [.retAddr 3, .int (7 : Int32)]) bo_38_0_2ac4ce rfl ?_
  refine h_cI h (fun v2 M1 e h => ?_)
  refine EV_call [.retAddr 3] [.int (7 : Int32)] mx_38 li_38_6 rfl rfl si_20_335 rfl (by decide) (by decide) (by omega) ma_37 rfl (Nat.le_of_ble_eq_true rfl) rfl rfl (Nat.le_of_ble_eq_true rfl) rfl (e_st_coder (by omega)  M _ e) ?_
  show EV d 38 9 [some (.retAddr 3)] [.int v2, .int (7 : Int32)] M1 _
  refine EV_stq mx_38 (pc' := 10) (L' := [some (.retAddr 3)]) (st' := [.int ((7 : Int32) >>> (v2 &&& 31))]) bo_38_9_afbef6 rfl ?_
  obtain rfl := Option.some.inj h
  exact r_ret mx_38 li_38_10 rfl ro_int
theorem e_sl_canEncode1 {d : Nat} (hd : 0 ≤ d) (p0 : Int32) (M : Mem) (r : Int32 × Mem) (h : f_sl_canEncode1 p0 M = some r) : EV d 39 0 (entL 1 [.int p0]) [] M (some (.int r.1), r.2) := by
  show EV d 39 0 [some (.int p0)] [] M _
  unfold f_sl_canEncode1 at h
  refine EV_stq mx_39 (pc' := 1) (L' := [some (.int p0)]) (st' := [.int p0]) bo_39_0_8d5162 rfl ?_
  refine h_lt h (fun h hc => ?_) (fun h hc => ?_)
  · refine r_ifT mx_39 li_39_1 (by decide) rfl hc ?_
    refine EV_stq mx_39 (pc' := 16) (L' := [some (.int p0)]) (st' := [.int (0 : Int32)]) bo_39_15_be4250 rfl ?_
    obtain rfl := Option.some.inj h
    exact r_ret mx_39 li_39_16 rfl (ro_nar (t := .boolean) (by decide) rfl)
  · refine r_ifF mx_39 li_39_1 (by decide) hc ?_
    refine EV_stq mx_39 (pc' := 8) (L' := [some (.int p0)]) (st' := [.int (255 : Int32), .int p0]) bo_39_4_40e659 rfl ?_
    refine h_gt h (fun h hc => ?_) (fun h hc => ?_)
    · refine r_icT mx_39 li_39_8 (by decide) rfl hc ?_
      refine EV_stq mx_39 (pc' := 16) (L' := [some (.int p0)]) (st' := [.int (0 : Int32)]) bo_39_15_be4250 rfl ?_
      obtain rfl := Option.some.inj h
      exact r_ret mx_39 li_39_16 rfl (ro_nar (t := .boolean) (by decide) rfl)
    · refine r_icF mx_39 li_39_8 (by decide) hc ?_
      refine EV_stq mx_39 (pc' := 16) (L' := [some (.int p0)]) (st' := [.int (1 : Int32)]) bo_39_11_274bbd rfl ?_
      obtain rfl := Option.some.inj h
      exact r_ret mx_39 li_39_16 rfl (ro_nar (t := .boolean) (by decide) rfl)
theorem e_sl_indexOfChar_7 {d : Nat} (hd : 0 ≤ d) : ∀ (n : Nat) (l3 : Int32) (l4 : Int32) (l5 : Int32) (M : Mem) (r : Int32 × Mem), f_sl_indexOfChar_7 n l3 l4 l5 M = some r → EV d 40 7 [some (.retAddr 4), none, none, some (.int l3), some (.int l4), some (.int l5)] [] M (some (.int r.1), r.2) := by
  intro n
  induction n with
  | zero => intro l3 l4 l5 M r h; cases h
  | succ n ih =>
    intro l3 l4 l5 M r h
    unfold f_sl_indexOfChar_7 at h
    refine EV_stq mx_40 (pc' := 10) (L' := [some (.retAddr 4), none, none, some (.int l3), some (.int l4), some (.int l5)]) (st' := [.int l3, .int l5]) bo_40_7_18399d rfl ?_
    refine h_ge h (fun h hc => ?_) (fun h hc => ?_)
    · refine r_icT mx_40 li_40_10 (by decide) rfl hc ?_
      refine EV_stq mx_40 (pc' := 32) (L' := [some (.retAddr 4), none, none, some (.int l3), some (.int l4), some (.int l5)]) (st' := [.int (-1 : Int32)]) bo_40_31_c379e3 rfl ?_
      obtain rfl := Option.some.inj h
      exact r_ret mx_40 li_40_32 rfl ro_int
    · refine r_icF mx_40 li_40_10 (by decide) hc ?_
      refine EV_stq mx_40 (pc' := 16) (L' := [some (.retAddr 4), none, none, some (.int l3), some (.int l4), some (.int l5)]) (st' := [.int l5, .retAddr 4]) bo_40_13_1f05a9 rfl ?_
      refine r_aO mx_40 li_40_16 h (fun v1 h => ?_)
      refine EV_stq mx_40 (pc' := 19) (L' := [some (.retAddr 4), none, none, some (.int l3), some (.int l4), some (.int l5)]) (st' := [.int l4, .int v1]) bo_40_17_509256 rfl ?_
      refine h_ne h (fun h hc => ?_) (fun h hc => ?_)
      · refine r_icF mx_40 li_40_19 (by decide) hc ?_
        refine EV_stq mx_40 (pc' := 24) (L' := [some (.retAddr 4), none, none, some (.int l3), some (.int l4), some (.int l5)]) (st' := [.int l5]) bo_40_22_60ac31 rfl ?_
        obtain rfl := Option.some.inj h
        exact r_ret mx_40 li_40_24 rfl ro_int
      · refine r_icT mx_40 li_40_19 (by decide) rfl hc ?_
        refine EV_stq mx_40 (pc' := 7) (L' := [some (.retAddr 4), none, none, some (.int l3), some (.int l4), some (.int (l5 + (1 : Int32)))]) (st' := []) bo_40_25_d3a15d rfl ?_
        exact ih l3 l4 (l5 + (1 : Int32)) M r h
theorem e_sl_indexOfChar {d : Nat} (hd : 0 ≤ d) (p1 : Int32) (p2 : Int32) (p3 : Int32) (M : Mem) (r : Int32 × Mem) (h : f_sl_indexOfChar p1 p2 p3 M = some r) : EV d 40 0 (entL 6 [.retAddr 4, .int p1, .int p2, .int p3]) [] M (some (.int r.1), r.2) := by
  show EV d 40 0 [some (.retAddr 4), some (.int p1), some (.int p2), some (.int p3), none, none] [] M _
  unfold f_sl_indexOfChar at h
  refine EV_stq mx_40 (pc' := 7) (L' := [some (.retAddr 4), some (.int p1), some (.int p2), some (.int p3), some (.int p1.toInt8.toInt32), some (.int p2)]) (st' := []) bo_40_0_2207cb rfl ?_
  refine EV_forget (A := [some (.retAddr 4), none, none, some (.int p3), some (.int p1.toInt8.toInt32), some (.int p2)]) (lsub_of _ _ ⟨Or.inr rfl, ⟨Or.inl rfl, ⟨Or.inl rfl, ⟨Or.inr rfl, ⟨Or.inr rfl, ⟨Or.inr rfl, trivial⟩⟩⟩⟩⟩⟩) ?_
  exact e_sl_indexOfChar_7 hd FU p3 p1.toInt8.toInt32 p2 M r h
theorem e_sl_indexOf {d : Nat} (hd : 1 ≤ d) (p1 : Int32) (p2 : Int32) (p3 : Int32) (M : Mem) (r : Int32 × Mem) (h : f_sl_indexOf p1 p2 p3 M = some r) : EV d 41 0 (entL 4 [.retAddr 4, .int p1, .int p2, .int p3]) [] M (some (.int r.1), r.2) := by
  show EV d 41 0 [some (.retAddr 4), some (.int p1), some (.int p2), some (.int p3)] [] M _
  unfold f_sl_indexOf at h
  refine EV_stq mx_41 (pc' := 1) (L' := [some (.retAddr 4), some (.int p1), some (.int p2), some (.int p3)]) (st' := [.int p1]) bo_41_0_8d5162 rfl ?_
  refine h_cI h (fun v2 M1 e h => ?_)
  refine EV_call [.int p1] [] mx_41 li_41_1 rfl rfl si_18_88 rfl (by decide) (by decide) (by omega) ma_39 rfl (Nat.le_of_ble_eq_true rfl) rfl rfl (Nat.le_of_ble_eq_true rfl) rfl (e_sl_canEncode1 (by omega) p1 M _ e) ?_
  show EV d 41 4 [some (.retAddr 4), some (.int p1), some (.int p2), some (.int p3)] [.int v2] M1 _
  refine h_ne h (fun h hc => ?_) (fun h hc => ?_)
  · refine r_ifF mx_41 li_41_4 (by decide) hc ?_
    refine EV_stq mx_41 (pc' := 8) (L' := [some (.retAddr 4), some (.int p1), some (.int p2), some (.int p3)]) (st' := [.int (-1 : Int32)]) bo_41_7_9b264f rfl ?_
    obtain rfl := Option.some.inj h
    exact r_ret mx_41 li_41_8 rfl ro_int
  · refine r_ifT mx_41 li_41_4 (by decide) rfl hc ?_
    refine EV_stq mx_41 (pc' := 11) (L' := [some (.retAddr 4), some (.int p1), some (.int p2), some (.int p3)]) (st' := [.int (0 : Int32), .int p2]) bo_41_9_16efa2 rfl ?_
    refine h_cI h (fun v4 M3 e h => ?_)
    refine EV_call [.int p2, .int (0 : Int32)] [] mx_41 li_41_11 rfl rfl si_18_92 rfl (by decide) (by decide) (by omega) ma_18 rfl (Nat.le_of_ble_eq_true rfl) rfl rfl (Nat.le_of_ble_eq_true rfl) rfl (e_ma_max (by omega) p2 (0 : Int32) M1 _ e) ?_
    show EV d 41 14 [some (.retAddr 4), some (.int p1), some (.int p2), some (.int p3)] [.int v4] M3 _
    refine EV_stq mx_41 (pc' := 18) (L' := [some (.retAddr 4), some (.int p1), some (.int v4), some (.int p3)]) (st' := [.int (7 : Int32), .int p3]) bo_41_14_aedc60 rfl ?_
    refine h_cI h (fun v6 M5 e h => ?_)
    refine EV_call [.int p3, .int (7 : Int32)] [] mx_41 li_41_18 rfl rfl si_18_38 rfl (by decide) (by decide) (by omega) ma_21 rfl (Nat.le_of_ble_eq_true rfl) rfl rfl (Nat.le_of_ble_eq_true rfl) rfl (e_ma_min (by omega) p3 (7 : Int32) M3 _ e) ?_
    show EV d 41 21 [some (.retAddr 4), some (.int p1), some (.int v4), some (.int p3)] [.int v6] M5 _
    refine EV_stq mx_41 (pc' := 24) (L' := [some (.retAddr 4), some (.int p1), some (.int v4), some (.int v6)]) (st' := [.int v6, .int v4]) bo_41_21_cd309e rfl ?_
    refine h_lt h (fun h hc => ?_) (fun h hc => ?_)
    · refine r_icT mx_41 li_41_24 (by decide) rfl hc ?_
      refine EV_stq mx_41 (pc' := 33) (L' := [some (.retAddr 4), some (.int p1), some (.int v4), some (.int v6)]) (st' := [.int v6, .int v4, .int p1, .retAddr 4]) bo_41_29_aa9272 rfl ?_
      refine h_cI h (fun v8 M7 e h => ?_)
      refine EV_call [.retAddr 4, .int p1, .int v4, .int v6] [] mx_41 li_41_33 rfl rfl si_18_95 rfl (by decide) (by decide) (by omega) ma_40 rfl (Nat.le_of_ble_eq_true rfl) rfl rfl (Nat.le_of_ble_eq_true rfl) rfl (e_sl_indexOfChar (by omega) p1 v4 v6 M5 _ e) ?_
      show EV d 41 36 [some (.retAddr 4), some (.int p1), some (.int v4), some (.int v6)] [.int v8] M7 _
      obtain rfl := Option.some.inj h
      exact r_ret mx_41 li_41_36 rfl ro_int
    · refine r_icF mx_41 li_41_24 (by decide) hc ?_
      refine EV_stq mx_41 (pc' := 28) (L' := [some (.retAddr 4), some (.int p1), some (.int v4), some (.int v6)]) (st' := [.int (-1 : Int32)]) bo_41_27_58fada rfl ?_
      obtain rfl := Option.some.inj h
      exact r_ret mx_41 li_41_28 rfl ro_int
theorem e_st_indexOf0 {d : Nat} (hd : 2 ≤ d) (p1 : Int32) (p2 : Int32) (M : Mem) (r : Int32 × Mem) (h : f_st_indexOf0 p1 p2 M = some r) : EV d 42 0 (entL 3 [.retAddr 3, .int p1, .int p2]) [] M (some (.int r.1), r.2) := by
  show EV d 42 0 [some (.retAddr 3), some (.int p1), some (.int p2)] [] M _
  unfold f_st_indexOf0 at h
  refine EV_stq mx_42 (pc' := 1) (L' := [some (.retAddr 3), some (.int p1), some (.int p2)]) (st' := [.retAddr 3]) bo_42_0_8d5162 rfl ?_
  refine h_cI h (fun v2 M1 e h => ?_)
  refine EV_call [.retAddr 3] [] mx_42 li_42_1 rfl rfl si_20_492 rfl (by decide) (by decide) (by omega) ma_36 rfl (Nat.le_of_ble_eq_true rfl) rfl rfl (Nat.le_of_ble_eq_true rfl) rfl (e_st_isLatin1 (by omega)  M _ e) ?_
  show EV d 42 4 [some (.retAddr 3), some (.int p1), some (.int p2)] [.int v2] M1 _
  refine h_eq h (fun h hc => ?_) (fun h hc => ?_)
  · refine r_ifT mx_42 li_42_4 (by decide) rfl hc ?_
    refine EV_stq mx_42 (pc' := 30) (L' := [some (.retAddr 3), some (.int p1), some (.int p2)]) (st' := [.retAddr 3, .int p2, .int p1, .retAddr 4]) bo_42_23_25f424 rfl ?_
    refine h_cI h (fun v4 M3 e h => ?_)
    refine EV_call [.retAddr 3] [.int p2, .int p1, .retAddr 4] mx_42 li_42_30 rfl rfl si_20_505 rfl (by decide) (by decide) (by omega) ma_38 rfl (Nat.le_of_ble_eq_true rfl) rfl rfl (Nat.le_of_ble_eq_true rfl) rfl (e_st_length (by omega)  M1 _ e) ?_
    show EV d 42 33 [some (.retAddr 3), some (.int p1), some (.int p2)] [.int v4, .int p2, .int p1, .retAddr 4] M3 _
    cases h
  · refine r_ifF mx_42 li_42_4 (by decide) hc ?_
    refine EV_stq mx_42 (pc' := 14) (L' := [some (.retAddr 3), some (.int p1), some (.int p2)]) (st' := [.retAddr 3, .int p2, .int p1, .retAddr 4]) bo_42_7_8ee799 rfl ?_
    refine h_cI h (fun v6 M5 e h => ?_)
    refine EV_call [.retAddr 3] [.int p2, .int p1, .retAddr 4] mx_42 li_42_14 rfl rfl si_20_505 rfl (by decide) (by decide) (by omega) ma_38 rfl (Nat.le_of_ble_eq_true rfl) rfl rfl (Nat.le_of_ble_eq_true rfl) rfl (e_st_length (by omega)  M1 _ e) ?_
    show EV d 42 17 [some (.retAddr 3), some (.int p1), some (.int p2)] [.int v6, .int p2, .int p1, .retAddr 4] M5 _
    refine h_cI h (fun v8 M7 e h => ?_)
    refine EV_call [.retAddr 4, .int p1, .int p2, .int v6] [] mx_42 li_42_17 rfl rfl si_20_637 rfl (by decide) (by decide) (by omega) ma_41 rfl (Nat.le_of_ble_eq_true rfl) rfl rfl (Nat.le_of_ble_eq_true rfl) rfl (e_sl_indexOf (by omega) p1 p2 v6 M5 _ e) ?_
    show EV d 42 20 [some (.retAddr 3), some (.int p1), some (.int p2)] [.int v8] M7 _
    refine EV_stq mx_42 (pc' := 36) (L' := [some (.retAddr 3), some (.int p1), some (.int p2)]) (st' := [.int v8]) bo_42_20_baa9a0 rfl ?_
    obtain rfl := Option.some.inj h
    exact r_ret mx_42 li_42_36 rfl ro_int
theorem e_st_indexOf1 {d : Nat} (hd : 3 ≤ d) (p1 : Int32) (M : Mem) (r : Int32 × Mem) (h : f_st_indexOf1 p1 M = some r) : EV d 43 0 (entL 2 [.retAddr 3, .int p1]) [] M (some (.int r.1), r.2) := by
  show EV d 43 0 [some (.retAddr 3), some (.int p1)] [] M _
  unfold f_st_indexOf1 at h
  refine EV_stq mx_43 (pc' := 3) (L' := [some (.retAddr 3), some (.int p1)]) (st' := [.int (0 : Int32), .int p1, .retAddr 3]) bo_43_0_8b3750 rfl ?_
  refine h_cI h (fun v2 M1 e h => ?_)
  refine EV_call [.retAddr 3, .int p1, .int (0 : Int32)] [] mx_43 li_43_3 rfl rfl si_20_633 rfl (by decide) (by decide) (by omega) ma_42 rfl (Nat.le_of_ble_eq_true rfl) rfl rfl (Nat.le_of_ble_eq_true rfl) rfl (e_st_indexOf0 (by omega) p1 (0 : Int32) M _ e) ?_
  show EV d 43 6 [some (.retAddr 3), some (.int p1)] [.int v2] M1 _
  obtain rfl := Option.some.inj h
  exact r_ret mx_43 li_43_6 rfl ro_int
theorem e_x_numbersOf {d : Nat} (hd : 0 ≤ d) (p0 : Int32) (M : Mem) (r : Int32 × Mem) (h : f_x_numbersOf p0 M = some r) : EV d 44 0 (entL 1 [.int p0]) [] M (some (.int r.1), r.2) := by
  show EV d 44 0 [some (.int p0)] [] M _
  unfold f_x_numbersOf at h
  refine EV_stq mx_44 (pc' := 1) (L' := [some (.int p0)]) (st' := [.int p0]) bo_44_0_8d5162 rfl ?_
  refine h_sw h (fun hh e0 => ?_) (fun h e0 => ?_)
  · clear h
    subst e0
    have h := hh
    clear hh
    refine r_tsI (off := 35) mx_44 li_44_1 (by decide +kernel) (by decide +kernel) (by decide) rfl ?_
    refine EV_stq mx_44 (pc' := 37) (L' := [some (.int (0 : Int32))]) (st' := [.int (2 : Int32)]) bo_44_36_befed3 rfl ?_
    obtain rfl := Option.some.inj h
    exact r_ret mx_44 li_44_37 rfl ro_int
  refine h_sw h (fun hh e1 => ?_) (fun h e1 => ?_)
  · clear h
    subst e1
    have h := hh
    clear hh
    refine r_tsI (off := 35) mx_44 li_44_1 (by decide +kernel) (by decide +kernel) (by decide) rfl ?_
    refine EV_stq mx_44 (pc' := 37) (L' := [some (.int (1 : Int32))]) (st' := [.int (2 : Int32)]) bo_44_36_befed3 rfl ?_
    obtain rfl := Option.some.inj h
    exact r_ret mx_44 li_44_37 rfl ro_int
  refine h_sw h (fun hh e2 => ?_) (fun h e2 => ?_)
  · clear h
    subst e2
    have h := hh
    clear hh
    refine r_tsI (off := 35) mx_44 li_44_1 (by decide +kernel) (by decide +kernel) (by decide) rfl ?_
    refine EV_stq mx_44 (pc' := 37) (L' := [some (.int (2 : Int32))]) (st' := [.int (2 : Int32)]) bo_44_36_befed3 rfl ?_
    obtain rfl := Option.some.inj h
    exact r_ret mx_44 li_44_37 rfl ro_int
  refine h_sw h (fun hh e3 => ?_) (fun h e3 => ?_)
  · clear h
    subst e3
    have h := hh
    clear hh
    refine r_tsI (off := 37) mx_44 li_44_1 (by decide +kernel) (by decide +kernel) (by decide) rfl ?_
    refine EV_stq mx_44 (pc' := 39) (L' := [some (.int (3 : Int32))]) (st' := [.int (1 : Int32)]) bo_44_38_c8c763 rfl ?_
    obtain rfl := Option.some.inj h
    exact r_ret mx_44 li_44_39 rfl ro_int
  refine h_sw h (fun hh e4 => ?_) (fun h e4 => ?_)
  · clear h
    subst e4
    have h := hh
    clear hh
    refine r_tsI (off := 37) mx_44 li_44_1 (by decide +kernel) (by decide +kernel) (by decide) rfl ?_
    refine EV_stq mx_44 (pc' := 39) (L' := [some (.int (4 : Int32))]) (st' := [.int (1 : Int32)]) bo_44_38_c8c763 rfl ?_
    obtain rfl := Option.some.inj h
    exact r_ret mx_44 li_44_39 rfl ro_int
  refine r_tsD mx_44 li_44_1 (by have n0 := lv_neT e0 (a := 0) (by decide); have n1 := lv_neT e1 (a := 1) (by decide); have n2 := lv_neT e2 (a := 2) (by decide); have n3 := lv_neT e3 (a := 3) (by decide); have n4 := lv_neT e4 (a := 4) (by decide); omega) (by decide) rfl ?_
  refine EV_stq mx_44 (pc' := 41) (L' := [some (.int p0)]) (st' := [.int (0 : Int32)]) bo_44_40_d0cc5b rfl ?_
  obtain rfl := Option.some.inj h
  exact r_ret mx_44 li_44_41 rfl ro_int
theorem e_rd_skip {d : Nat} (hd : 5 ≤ d) (p0 : Nat) (p1 : Int32) (M : Mem) (r : Int32 × Mem) (h : f_rd_skip p0 p1 M = some r) : EV d 45 0 (entL 2 [.ref p0, .int p1]) [] M (some (.int r.1), r.2) := by
  show EV d 45 0 [some (.ref p0), some (.int p1)] [] M _
  unfold f_rd_skip at h
  refine EV_stq mx_45 (pc' := 1) (L' := [some (.ref p0), some (.int p1)]) (st' := [.ref p0]) bo_45_0_8d5162 rfl ?_
  refine h_ck h (fun hc h => ?_)
  refine h_cI h (fun v2 M1 e h => ?_)
  refine EV_call [.ref p0] [] mx_45 li_45_1 rfl rfl si_2_38 rfl (by decide) (by decide) (by omega) ma_35 rfl (Nat.le_of_ble_eq_true rfl) rfl rfl (Nat.le_of_ble_eq_true rfl) (rc_1 mt_at_35 rfl rfl (by decide) hc) (e_rd_sign (by omega) p0 M _ e) ?_
  show EV d 45 4 [some (.ref p0), some (.int p1)] [.int v2] M1 _
  refine EV_stq mx_45 (pc' := 5) (L' := [some (.ref p0), some (.int p1)]) (st' := [.int p1, .int v2]) bo_45_4_e962e2 rfl ?_
  refine h_eq h (fun h hc => ?_) (fun h hc => ?_)
  · refine r_icT mx_45 li_45_5 (by decide) rfl hc ?_
    refine EV_stq mx_45 (pc' := 12) (L' := [some (.ref p0), some (.int p1)]) (st' := [.ref p0, .ref p0]) bo_45_10_42a704 rfl ?_
    refine r_gI mx_45 li_45_12 fd_2_28 ⟨by decide, by decide⟩ h (fun v3 h => ?_)
    refine EV_stq mx_45 (pc' := 17) (L' := [some (.ref p0), some (.int p1)]) (st' := [.int (v3 + (1 : Int32)), .ref p0]) bo_45_15_d45c32 rfl ?_
    refine r_pI mx_45 li_45_17 fd_2_28 (Or.inl rfl) rfl h (fun M4 h => ?_)
    refine EV_stq mx_45 (pc' := 21) (L' := [some (.ref p0), some (.int p1)]) (st' := [.int (1 : Int32)]) bo_45_20_baa9a0 rfl ?_
    obtain rfl := Option.some.inj h
    exact r_ret mx_45 li_45_21 rfl (ro_nar (t := .boolean) (by decide) rfl)
  · refine r_icF mx_45 li_45_5 (by decide) hc ?_
    refine EV_stq mx_45 (pc' := 9) (L' := [some (.ref p0), some (.int p1)]) (st' := [.int (0 : Int32)]) bo_45_8_383530 rfl ?_
    obtain rfl := Option.some.inj h
    exact r_ret mx_45 li_45_9 rfl (ro_nar (t := .boolean) (by decide) rfl)
theorem e_rd_atDigit {d : Nat} (hd : 5 ≤ d) (p0 : Nat) (M : Mem) (r : Int32 × Mem) (h : f_rd_atDigit p0 M = some r) : EV d 46 0 (entL 1 [.ref p0]) [] M (some (.int r.1), r.2) := by
  show EV d 46 0 [some (.ref p0)] [] M _
  unfold f_rd_atDigit at h
  refine EV_stq mx_46 (pc' := 1) (L' := [some (.ref p0)]) (st' := [.ref p0]) bo_46_0_8d5162 rfl ?_
  refine h_ck h (fun hc h => ?_)
  refine h_cI h (fun v2 M1 e h => ?_)
  refine EV_call [.ref p0] [] mx_46 li_46_1 rfl rfl si_2_38 rfl (by decide) (by decide) (by omega) ma_35 rfl (Nat.le_of_ble_eq_true rfl) rfl rfl (Nat.le_of_ble_eq_true rfl) (rc_1 mt_at_35 rfl rfl (by decide) hc) (e_rd_sign (by omega) p0 M _ e) ?_
  show EV d 46 4 [some (.ref p0)] [.int v2] M1 _
  refine EV_stq mx_46 (pc' := 6) (L' := [some (.ref p0)]) (st' := [.int (48 : Int32), .int v2]) bo_46_4_e962e2 rfl ?_
  refine h_lt h (fun h hc => ?_) (fun h hc => ?_)
  · refine r_icT mx_46 li_46_6 (by decide) rfl hc ?_
    refine EV_stq mx_46 (pc' := 23) (L' := [some (.ref p0)]) (st' := [.int (0 : Int32)]) bo_46_22_60ac31 rfl ?_
    obtain rfl := Option.some.inj h
    exact r_ret mx_46 li_46_23 rfl (ro_nar (t := .boolean) (by decide) rfl)
  · refine r_icF mx_46 li_46_6 (by decide) hc ?_
    refine EV_stq mx_46 (pc' := 10) (L' := [some (.ref p0)]) (st' := [.ref p0]) bo_46_9_afbef6 rfl ?_
    refine h_ck h (fun hc h => ?_)
    refine h_cI h (fun v4 M3 e h => ?_)
    refine EV_call [.ref p0] [] mx_46 li_46_10 rfl rfl si_2_38 rfl (by decide) (by decide) (by omega) ma_35 rfl (Nat.le_of_ble_eq_true rfl) rfl rfl (Nat.le_of_ble_eq_true rfl) (rc_1 mt_at_35 rfl rfl (by decide) hc) (e_rd_sign (by omega) p0 M1 _ e) ?_
    show EV d 46 13 [some (.ref p0)] [.int v4] M3 _
    refine EV_stq mx_46 (pc' := 15) (L' := [some (.ref p0)]) (st' := [.int (57 : Int32), .int v4]) bo_46_13_15f019 rfl ?_
    refine h_gt h (fun h hc => ?_) (fun h hc => ?_)
    · refine r_icT mx_46 li_46_15 (by decide) rfl hc ?_
      refine EV_stq mx_46 (pc' := 23) (L' := [some (.ref p0)]) (st' := [.int (0 : Int32)]) bo_46_22_60ac31 rfl ?_
      obtain rfl := Option.some.inj h
      exact r_ret mx_46 li_46_23 rfl (ro_nar (t := .boolean) (by decide) rfl)
    · refine r_icF mx_46 li_46_15 (by decide) hc ?_
      refine EV_stq mx_46 (pc' := 23) (L' := [some (.ref p0)]) (st' := [.int (1 : Int32)]) bo_46_18_d268ac rfl ?_
      obtain rfl := Option.some.inj h
      exact r_ret mx_46 li_46_23 rfl (ro_nar (t := .boolean) (by decide) rfl)
theorem e_rd_readNumber_73 {d : Nat} (hd : 6 ≤ d) (l0 : Nat) (l1 : Int32) (M : Mem) (r : Int32 × Mem) (h : f_rd_readNumber_73 l0 l1 M = some r) : EV d 47 73 [some (.ref l0), some (.int l1)] [] M (some (.int r.1), r.2) := by
  unfold f_rd_readNumber_73 at h
  refine EV_stq mx_47 (pc' := 74) (L' := [some (.ref l0), some (.int l1)]) (st' := [.int l1]) bo_47_73_555da0 rfl ?_
  refine h_eq h (fun h hc => ?_) (fun h hc => ?_)
  · refine r_ifT mx_47 li_47_74 (by decide) rfl hc ?_
    refine EV_stq mx_47 (pc' := 87) (L' := [some (.ref l0), some (.int l1)]) (st' := [.int (1 : Int32)]) bo_47_86_bff005 rfl ?_
    obtain rfl := Option.some.inj h
    exact r_ret mx_47 li_47_87 rfl (ro_nar (t := .boolean) (by decide) rfl)
  · refine r_ifF mx_47 li_47_74 (by decide) hc ?_
    refine EV_stq mx_47 (pc' := 79) (L' := [some (.ref l0), some (.int l1)]) (st' := [.ref l0, .ref l0]) bo_47_77_3949c1 rfl ?_
    refine r_gI mx_47 li_47_79 fd_2_86 ⟨by decide, by decide⟩ h (fun v1 h => ?_)
    refine EV_stq mx_47 (pc' := 83) (L' := [some (.ref l0), some (.int l1)]) (st' := [.int (-v1), .ref l0]) bo_47_82_d3719d rfl ?_
    refine r_pI mx_47 li_47_83 fd_2_86 (Or.inl rfl) rfl h (fun M2 h => ?_)
    refine EV_stq mx_47 (pc' := 87) (L' := [some (.ref l0), some (.int l1)]) (st' := [.int (1 : Int32)]) bo_47_86_bff005 rfl ?_
    obtain rfl := Option.some.inj h
    exact r_ret mx_47 li_47_87 rfl (ro_nar (t := .boolean) (by decide) rfl)
theorem e_rd_readNumber {d : Nat} (hd : 6 ≤ d) (p0 : Nat) (M : Mem) (r : Int32 × Mem) (h : f_rd_readNumber p0 M = some r) : EV d 47 0 (entL 2 [.ref p0]) [] M (some (.int r.1), r.2) := by
  show EV d 47 0 [some (.ref p0), none] [] M _
  unfold f_rd_readNumber at h
  refine EV_stq mx_47 (pc' := 3) (L' := [some (.ref p0), none]) (st' := [.int (45 : Int32), .ref p0]) bo_47_0_264884 rfl ?_
  refine h_ck h (fun hc h => ?_)
  refine h_cI h (fun v2 M1 e h => ?_)
  refine EV_call [.ref p0, .int (45 : Int32)] [] mx_47 li_47_3 rfl rfl si_2_76 rfl (by decide) (by decide) (by omega) ma_45 rfl (Nat.le_of_ble_eq_true rfl) rfl rfl (Nat.le_of_ble_eq_true rfl) (rc_1 mt_at_45 rfl rfl (by decide) hc) (e_rd_skip (by omega) p0 (45 : Int32) M _ e) ?_
  show EV d 47 6 [some (.ref p0), none] [.int v2] M1 _
  refine EV_stq mx_47 (pc' := 8) (L' := [some (.ref p0), some (.int v2)]) (st' := [.ref p0]) bo_47_6_e618ed rfl ?_
  refine h_ck h (fun hc h => ?_)
  refine h_cI h (fun v4 M3 e h => ?_)
  refine EV_call [.ref p0] [] mx_47 li_47_8 rfl rfl si_2_89 rfl (by decide) (by decide) (by omega) ma_46 rfl (Nat.le_of_ble_eq_true rfl) rfl rfl (Nat.le_of_ble_eq_true rfl) (rc_1 mt_at_46 rfl rfl (by decide) hc) (e_rd_atDigit (by omega) p0 M1 _ e) ?_
  show EV d 47 11 [some (.ref p0), some (.int v2)] [.int v4] M3 _
  refine h_ne h (fun h hc => ?_) (fun h hc => ?_)
  · refine r_ifF mx_47 li_47_11 (by decide) hc ?_
    refine EV_stq mx_47 (pc' := 15) (L' := [some (.ref p0), some (.int v2)]) (st' := [.int (0 : Int32)]) bo_47_14_3e81ce rfl ?_
    obtain rfl := Option.some.inj h
    exact r_ret mx_47 li_47_15 rfl (ro_nar (t := .boolean) (by decide) rfl)
  · refine r_ifT mx_47 li_47_11 (by decide) rfl hc ?_
    refine EV_stq mx_47 (pc' := 18) (L' := [some (.ref p0), some (.int v2)]) (st' := [.ref p0, .ref p0]) bo_47_16_f4f9fa rfl ?_
    refine h_ck h (fun hc h => ?_)
    refine h_cI h (fun v6 M5 e h => ?_)
    refine EV_call [.ref p0] [.ref p0] mx_47 li_47_18 rfl rfl si_2_38 rfl (by decide) (by decide) (by omega) ma_35 rfl (Nat.le_of_ble_eq_true rfl) rfl rfl (Nat.le_of_ble_eq_true rfl) (rc_1 mt_at_35 rfl rfl (by decide) hc) (e_rd_sign (by omega) p0 M3 _ e) ?_
    show EV d 47 21 [some (.ref p0), some (.int v2)] [.int v6, .ref p0] M5 _
    refine EV_stq mx_47 (pc' := 24) (L' := [some (.ref p0), some (.int v2)]) (st' := [.int (v6 - (48 : Int32)), .ref p0]) bo_47_21_22a4b3 rfl ?_
    refine r_pI mx_47 li_47_24 fd_2_86 (Or.inl rfl) rfl h (fun M7 h => ?_)
    refine EV_stq mx_47 (pc' := 29) (L' := [some (.ref p0), some (.int v2)]) (st' := [.ref p0, .ref p0]) bo_47_27_fe3fdb rfl ?_
    refine r_gI mx_47 li_47_29 fd_2_28 ⟨by decide, by decide⟩ h (fun v8 h => ?_)
    refine EV_stq mx_47 (pc' := 34) (L' := [some (.ref p0), some (.int v2)]) (st' := [.int (v8 + (1 : Int32)), .ref p0]) bo_47_32_dac25e rfl ?_
    refine r_pI mx_47 li_47_34 fd_2_28 (Or.inl rfl) rfl h (fun M9 h => ?_)
    refine EV_stq mx_47 (pc' := 38) (L' := [some (.ref p0), some (.int v2)]) (st' := [.ref p0]) bo_47_37_a21c9f rfl ?_
    refine h_ck h (fun hc h => ?_)
    refine h_cI h (fun v11 M10 e h => ?_)
    refine EV_call [.ref p0] [] mx_47 li_47_38 rfl rfl si_2_89 rfl (by decide) (by decide) (by omega) ma_46 rfl (Nat.le_of_ble_eq_true rfl) rfl rfl (Nat.le_of_ble_eq_true rfl) (rc_1 mt_at_46 rfl rfl (by decide) hc) (e_rd_atDigit (by omega) p0 M9 _ e) ?_
    show EV d 47 41 [some (.ref p0), some (.int v2)] [.int v11] M10 _
    refine h_eq h (fun h hc => ?_) (fun h hc => ?_)
    · refine r_ifT mx_47 li_47_41 (by decide) rfl hc ?_
      exact e_rd_readNumber_73 hd p0 v2 M10 r h
    · refine r_ifF mx_47 li_47_41 (by decide) hc ?_
      refine EV_stq mx_47 (pc' := 46) (L' := [some (.ref p0), some (.int v2)]) (st' := [.ref p0, .ref p0]) bo_47_44_e175ea rfl ?_
      refine r_gI mx_47 li_47_46 fd_2_86 ⟨by decide, by decide⟩ h (fun v12 h => ?_)
      refine EV_stq mx_47 (pc' := 53) (L' := [some (.ref p0), some (.int v2)]) (st' := [.ref p0, .int (v12 * (10 : Int32)), .ref p0]) bo_47_49_fae446 rfl ?_
      refine h_ck h (fun hc h => ?_)
      refine h_cI h (fun v14 M13 e h => ?_)
      refine EV_call [.ref p0] [.int (v12 * (10 : Int32)), .ref p0] mx_47 li_47_53 rfl rfl si_2_38 rfl (by decide) (by decide) (by omega) ma_35 rfl (Nat.le_of_ble_eq_true rfl) rfl rfl (Nat.le_of_ble_eq_true rfl) (rc_1 mt_at_35 rfl rfl (by decide) hc) (e_rd_sign (by omega) p0 M10 _ e) ?_
      show EV d 47 56 [some (.ref p0), some (.int v2)] [.int v14, .int (v12 * (10 : Int32)), .ref p0] M13 _
      refine EV_stq mx_47 (pc' := 60) (L' := [some (.ref p0), some (.int v2)]) (st' := [.int (((v12 * (10 : Int32)) + v14) - (48 : Int32)), .ref p0]) bo_47_56_4a6e8d rfl ?_
      refine r_pI mx_47 li_47_60 fd_2_86 (Or.inl rfl) rfl h (fun M15 h => ?_)
      refine EV_stq mx_47 (pc' := 65) (L' := [some (.ref p0), some (.int v2)]) (st' := [.ref p0, .ref p0]) bo_47_63_92b333 rfl ?_
      refine r_gI mx_47 li_47_65 fd_2_28 ⟨by decide, by decide⟩ h (fun v16 h => ?_)
      refine EV_stq mx_47 (pc' := 70) (L' := [some (.ref p0), some (.int v2)]) (st' := [.int (v16 + (1 : Int32)), .ref p0]) bo_47_68_702533 rfl ?_
      refine r_pI mx_47 li_47_70 fd_2_28 (Or.inl rfl) rfl h (fun M17 h => ?_)
      exact e_rd_readNumber_73 hd p0 v2 M17 r h
theorem e_rd_inRange {d : Nat} (hd : 0 ≤ d) (p0 : Nat) (p1 : Int32) (M : Mem) (r : Int32 × Mem) (h : f_rd_inRange p0 p1 M = some r) : EV d 48 0 (entL 2 [.ref p0, .int p1]) [] M (some (.int r.1), r.2) := by
  show EV d 48 0 [some (.ref p0), some (.int p1)] [] M _
  unfold f_rd_inRange at h
  refine EV_stq mx_48 (pc' := 1) (L' := [some (.ref p0), some (.int p1)]) (st' := [.int p1]) bo_48_0_8d5162 rfl ?_
  refine h_sw h (fun hh e0 => ?_) (fun h e0 => ?_)
  · clear h
    subst e0
    have h := hh
    clear hh
    refine r_tsI (off := 31) mx_48 li_48_1 (by decide +kernel) (by decide +kernel) (by decide) rfl ?_
    refine EV_stq mx_48 (pc' := 33) (L' := [some (.ref p0), some (.int (1 : Int32))]) (st' := [.ref p0]) bo_48_32_191034 rfl ?_
    refine r_gI mx_48 li_48_33 fd_2_86 ⟨by decide, by decide⟩ h (fun v1 h => ?_)
    refine h_lt h (fun h hc => ?_) (fun h hc => ?_)
    · refine r_ifT mx_48 li_48_36 (by decide) rfl hc ?_
      refine EV_stq mx_48 (pc' := 52) (L' := [some (.ref p0), some (.int (1 : Int32))]) (st' := [.int (0 : Int32)]) bo_48_51_93c172 rfl ?_
      obtain rfl := Option.some.inj h
      exact r_ret mx_48 li_48_52 rfl (ro_nar (t := .boolean) (by decide) rfl)
    · refine r_ifF mx_48 li_48_36 (by decide) hc ?_
      refine EV_stq mx_48 (pc' := 40) (L' := [some (.ref p0), some (.int (1 : Int32))]) (st' := [.ref p0]) bo_48_39_4dcc25 rfl ?_
      refine r_gI mx_48 li_48_40 fd_2_86 ⟨by decide, by decide⟩ h (fun v2 h => ?_)
      refine EV_stq mx_48 (pc' := 44) (L' := [some (.ref p0), some (.int (1 : Int32))]) (st' := [.int (2 : Int32), .int v2]) bo_48_43_d85b47 rfl ?_
      refine h_gt h (fun h hc => ?_) (fun h hc => ?_)
      · refine r_icT mx_48 li_48_44 (by decide) rfl hc ?_
        refine EV_stq mx_48 (pc' := 52) (L' := [some (.ref p0), some (.int (1 : Int32))]) (st' := [.int (0 : Int32)]) bo_48_51_93c172 rfl ?_
        obtain rfl := Option.some.inj h
        exact r_ret mx_48 li_48_52 rfl (ro_nar (t := .boolean) (by decide) rfl)
      · refine r_icF mx_48 li_48_44 (by decide) hc ?_
        refine EV_stq mx_48 (pc' := 52) (L' := [some (.ref p0), some (.int (1 : Int32))]) (st' := [.int (1 : Int32)]) bo_48_47_400428 rfl ?_
        obtain rfl := Option.some.inj h
        exact r_ret mx_48 li_48_52 rfl (ro_nar (t := .boolean) (by decide) rfl)
  refine h_sw h (fun hh e1 => ?_) (fun h e1 => ?_)
  · clear h
    subst e1
    have h := hh
    clear hh
    refine r_tsI (off := 95) mx_48 li_48_1 (by decide +kernel) (by decide +kernel) (by decide) rfl ?_
    refine EV_stq mx_48 (pc' := 97) (L' := [some (.ref p0), some (.int (2 : Int32))]) (st' := [.int (1 : Int32)]) bo_48_96_2375ef rfl ?_
    obtain rfl := Option.some.inj h
    exact r_ret mx_48 li_48_97 rfl (ro_nar (t := .boolean) (by decide) rfl)
  refine h_sw h (fun hh e2 => ?_) (fun h e2 => ?_)
  · clear h
    subst e2
    have h := hh
    clear hh
    refine r_tsI (off := 52) mx_48 li_48_1 (by decide +kernel) (by decide +kernel) (by decide) rfl ?_
    refine EV_stq mx_48 (pc' := 54) (L' := [some (.ref p0), some (.int (3 : Int32))]) (st' := [.ref p0]) bo_48_53_a422c0 rfl ?_
    refine r_gI mx_48 li_48_54 fd_2_86 ⟨by decide, by decide⟩ h (fun v3 h => ?_)
    refine h_lt h (fun h hc => ?_) (fun h hc => ?_)
    · refine r_ifT mx_48 li_48_57 (by decide) rfl hc ?_
      refine EV_stq mx_48 (pc' := 73) (L' := [some (.ref p0), some (.int (3 : Int32))]) (st' := [.int (0 : Int32)]) bo_48_72_c0ffc8 rfl ?_
      obtain rfl := Option.some.inj h
      exact r_ret mx_48 li_48_73 rfl (ro_nar (t := .boolean) (by decide) rfl)
    · refine r_ifF mx_48 li_48_57 (by decide) hc ?_
      refine EV_stq mx_48 (pc' := 61) (L' := [some (.ref p0), some (.int (3 : Int32))]) (st' := [.ref p0]) bo_48_60_1be089 rfl ?_
      refine r_gI mx_48 li_48_61 fd_2_86 ⟨by decide, by decide⟩ h (fun v4 h => ?_)
      refine EV_stq mx_48 (pc' := 65) (L' := [some (.ref p0), some (.int (3 : Int32))]) (st' := [.int (3 : Int32), .int v4]) bo_48_64_446f01 rfl ?_
      refine h_gt h (fun h hc => ?_) (fun h hc => ?_)
      · refine r_icT mx_48 li_48_65 (by decide) rfl hc ?_
        refine EV_stq mx_48 (pc' := 73) (L' := [some (.ref p0), some (.int (3 : Int32))]) (st' := [.int (0 : Int32)]) bo_48_72_c0ffc8 rfl ?_
        obtain rfl := Option.some.inj h
        exact r_ret mx_48 li_48_73 rfl (ro_nar (t := .boolean) (by decide) rfl)
      · refine r_icF mx_48 li_48_65 (by decide) hc ?_
        refine EV_stq mx_48 (pc' := 73) (L' := [some (.ref p0), some (.int (3 : Int32))]) (st' := [.int (1 : Int32)]) bo_48_68_702533 rfl ?_
        obtain rfl := Option.some.inj h
        exact r_ret mx_48 li_48_73 rfl (ro_nar (t := .boolean) (by decide) rfl)
  refine h_sw h (fun hh e3 => ?_) (fun h e3 => ?_)
  · clear h
    subst e3
    have h := hh
    clear hh
    refine r_tsI (off := 73) mx_48 li_48_1 (by decide +kernel) (by decide +kernel) (by decide) rfl ?_
    refine EV_stq mx_48 (pc' := 75) (L' := [some (.ref p0), some (.int (4 : Int32))]) (st' := [.ref p0]) bo_48_74_ac6591 rfl ?_
    refine r_gI mx_48 li_48_75 fd_2_86 ⟨by decide, by decide⟩ h (fun v5 h => ?_)
    refine EV_stq mx_48 (pc' := 79) (L' := [some (.ref p0), some (.int (4 : Int32))]) (st' := [.int (1 : Int32), .int v5]) bo_48_78_ade702 rfl ?_
    refine h_lt h (fun h hc => ?_) (fun h hc => ?_)
    · refine r_icT mx_48 li_48_79 (by decide) rfl hc ?_
      refine EV_stq mx_48 (pc' := 95) (L' := [some (.ref p0), some (.int (4 : Int32))]) (st' := [.int (0 : Int32)]) bo_48_94_6615ab rfl ?_
      obtain rfl := Option.some.inj h
      exact r_ret mx_48 li_48_95 rfl (ro_nar (t := .boolean) (by decide) rfl)
    · refine r_icF mx_48 li_48_79 (by decide) hc ?_
      refine EV_stq mx_48 (pc' := 83) (L' := [some (.ref p0), some (.int (4 : Int32))]) (st' := [.ref p0]) bo_48_82_d3719d rfl ?_
      refine r_gI mx_48 li_48_83 fd_2_86 ⟨by decide, by decide⟩ h (fun v6 h => ?_)
      refine EV_stq mx_48 (pc' := 87) (L' := [some (.ref p0), some (.int (4 : Int32))]) (st' := [.int (5 : Int32), .int v6]) bo_48_86_bff005 rfl ?_
      refine h_gt h (fun h hc => ?_) (fun h hc => ?_)
      · refine r_icT mx_48 li_48_87 (by decide) rfl hc ?_
        refine EV_stq mx_48 (pc' := 95) (L' := [some (.ref p0), some (.int (4 : Int32))]) (st' := [.int (0 : Int32)]) bo_48_94_6615ab rfl ?_
        obtain rfl := Option.some.inj h
        exact r_ret mx_48 li_48_95 rfl (ro_nar (t := .boolean) (by decide) rfl)
      · refine r_icF mx_48 li_48_87 (by decide) hc ?_
        refine EV_stq mx_48 (pc' := 95) (L' := [some (.ref p0), some (.int (4 : Int32))]) (st' := [.int (1 : Int32)]) bo_48_90_180c4e rfl ?_
        obtain rfl := Option.some.inj h
        exact r_ret mx_48 li_48_95 rfl (ro_nar (t := .boolean) (by decide) rfl)
  refine r_tsD mx_48 li_48_1 (by have n0 := lv_neT e0 (a := 1) (by decide); have n1 := lv_neT e1 (a := 2) (by decide); have n2 := lv_neT e2 (a := 3) (by decide); have n3 := lv_neT e3 (a := 4) (by decide); omega) (by decide) rfl ?_
  refine EV_stq mx_48 (pc' := 97) (L' := [some (.ref p0), some (.int p1)]) (st' := [.int (1 : Int32)]) bo_48_96_2375ef rfl ?_
  obtain rfl := Option.some.inj h
  exact r_ret mx_48 li_48_97 rfl (ro_nar (t := .boolean) (by decide) rfl)
theorem e_rd_atInstances {d : Nat} (hd : 5 ≤ d) (p0 : Nat) (M : Mem) (r : Int32 × Mem) (h : f_rd_atInstances p0 M = some r) : EV d 49 0 (entL 1 [.ref p0]) [] M (some (.int r.1), r.2) := by
  show EV d 49 0 [some (.ref p0)] [] M _
  unfold f_rd_atInstances at h
  refine EV_stq mx_49 (pc' := 1) (L' := [some (.ref p0)]) (st' := [.ref p0]) bo_49_0_8d5162 rfl ?_
  refine h_ck h (fun hc h => ?_)
  refine h_cI h (fun v2 M1 e h => ?_)
  refine EV_call [.ref p0] [] mx_49 li_49_1 rfl rfl si_2_38 rfl (by decide) (by decide) (by omega) ma_35 rfl (Nat.le_of_ble_eq_true rfl) rfl rfl (Nat.le_of_ble_eq_true rfl) (rc_1 mt_at_35 rfl rfl (by decide) hc) (e_rd_sign (by omega) p0 M _ e) ?_
  show EV d 49 4 [some (.ref p0)] [.int v2] M1 _
  refine EV_stq mx_49 (pc' := 6) (L' := [some (.ref p0)]) (st' := [.int (49 : Int32), .int v2]) bo_49_4_e962e2 rfl ?_
  refine h_lt h (fun h hc => ?_) (fun h hc => ?_)
  · refine r_icT mx_49 li_49_6 (by decide) rfl hc ?_
    refine EV_stq mx_49 (pc' := 23) (L' := [some (.ref p0)]) (st' := [.int (0 : Int32)]) bo_49_22_60ac31 rfl ?_
    obtain rfl := Option.some.inj h
    exact r_ret mx_49 li_49_23 rfl (ro_nar (t := .boolean) (by decide) rfl)
  · refine r_icF mx_49 li_49_6 (by decide) hc ?_
    refine EV_stq mx_49 (pc' := 10) (L' := [some (.ref p0)]) (st' := [.ref p0]) bo_49_9_afbef6 rfl ?_
    refine h_ck h (fun hc h => ?_)
    refine h_cI h (fun v4 M3 e h => ?_)
    refine EV_call [.ref p0] [] mx_49 li_49_10 rfl rfl si_2_38 rfl (by decide) (by decide) (by omega) ma_35 rfl (Nat.le_of_ble_eq_true rfl) rfl rfl (Nat.le_of_ble_eq_true rfl) (rc_1 mt_at_35 rfl rfl (by decide) hc) (e_rd_sign (by omega) p0 M1 _ e) ?_
    show EV d 49 13 [some (.ref p0)] [.int v4] M3 _
    refine EV_stq mx_49 (pc' := 15) (L' := [some (.ref p0)]) (st' := [.int (51 : Int32), .int v4]) bo_49_13_15f019 rfl ?_
    refine h_gt h (fun h hc => ?_) (fun h hc => ?_)
    · refine r_icT mx_49 li_49_15 (by decide) rfl hc ?_
      refine EV_stq mx_49 (pc' := 23) (L' := [some (.ref p0)]) (st' := [.int (0 : Int32)]) bo_49_22_60ac31 rfl ?_
      obtain rfl := Option.some.inj h
      exact r_ret mx_49 li_49_23 rfl (ro_nar (t := .boolean) (by decide) rfl)
    · refine r_icF mx_49 li_49_15 (by decide) hc ?_
      refine EV_stq mx_49 (pc' := 23) (L' := [some (.ref p0)]) (st' := [.int (1 : Int32)]) bo_49_18_d268ac rfl ?_
      obtain rfl := Option.some.inj h
      exact r_ret mx_49 li_49_23 rfl (ro_nar (t := .boolean) (by decide) rfl)
theorem e_rd_readInstances {d : Nat} (hd : 6 ≤ d) (p0 : Nat) (M : Mem) (r : Int32 × Mem) (h : f_rd_readInstances p0 M = some r) : EV d 50 0 (entL 2 [.ref p0]) [] M (some (.int r.1), r.2) := by
  show EV d 50 0 [some (.ref p0), none] [] M _
  unfold f_rd_readInstances at h
  refine EV_stq mx_50 (pc' := 1) (L' := [some (.ref p0), none]) (st' := [.ref p0]) bo_50_0_8d5162 rfl ?_
  refine h_ck h (fun hc h => ?_)
  refine h_cI h (fun v2 M1 e h => ?_)
  refine EV_call [.ref p0] [] mx_50 li_50_1 rfl rfl si_2_46 rfl (by decide) (by decide) (by omega) ma_49 rfl (Nat.le_of_ble_eq_true rfl) rfl rfl (Nat.le_of_ble_eq_true rfl) (rc_1 mt_at_49 rfl rfl (by decide) hc) (e_rd_atInstances (by omega) p0 M _ e) ?_
  show EV d 50 4 [some (.ref p0), none] [.int v2] M1 _
  refine h_ne h (fun h hc => ?_) (fun h hc => ?_)
  · refine r_ifF mx_50 li_50_4 (by decide) hc ?_
    refine EV_stq mx_50 (pc' := 8) (L' := [some (.ref p0), none]) (st' := [.int (1 : Int32)]) bo_50_7_9b264f rfl ?_
    obtain rfl := Option.some.inj h
    exact r_ret mx_50 li_50_8 rfl ro_int
  · refine r_ifT mx_50 li_50_4 (by decide) rfl hc ?_
    refine EV_stq mx_50 (pc' := 10) (L' := [some (.ref p0), none]) (st' := [.ref p0]) bo_50_9_afbef6 rfl ?_
    refine h_ck h (fun hc h => ?_)
    refine h_cI h (fun v4 M3 e h => ?_)
    refine EV_call [.ref p0] [] mx_50 li_50_10 rfl rfl si_2_38 rfl (by decide) (by decide) (by omega) ma_35 rfl (Nat.le_of_ble_eq_true rfl) rfl rfl (Nat.le_of_ble_eq_true rfl) (rc_1 mt_at_35 rfl rfl (by decide) hc) (e_rd_sign (by omega) p0 M1 _ e) ?_
    show EV d 50 13 [some (.ref p0), none] [.int v4] M3 _
    refine EV_stq mx_50 (pc' := 19) (L' := [some (.ref p0), some (.int (v4 - (48 : Int32)))]) (st' := [.ref p0, .ref p0]) bo_50_13_d2d472 rfl ?_
    refine r_gI mx_50 li_50_19 fd_2_28 ⟨by decide, by decide⟩ h (fun v5 h => ?_)
    refine EV_stq mx_50 (pc' := 24) (L' := [some (.ref p0), some (.int (v4 - (48 : Int32)))]) (st' := [.int (v5 + (1 : Int32)), .ref p0]) bo_50_22_13b32e rfl ?_
    refine r_pI mx_50 li_50_24 fd_2_28 (Or.inl rfl) rfl h (fun M6 h => ?_)
    refine EV_stq mx_50 (pc' := 28) (L' := [some (.ref p0), some (.int (v4 - (48 : Int32)))]) (st' := [.int (v4 - (48 : Int32))]) bo_50_27_58fada rfl ?_
    obtain rfl := Option.some.inj h
    exact r_ret mx_50 li_50_28 rfl ro_int
theorem e_rd_readStage_159 {d : Nat} (hd : 7 ≤ d) (l0 : Nat) (l1 : Int32) (M : Mem) (r : Int32 × Mem) (h : f_rd_readStage_159 l0 l1 M = some r) : EV d 51 159 [some (.ref l0), some (.int l1), none, none, none] [] M (some (.int r.1), r.2) := by
  unfold f_rd_readStage_159 at h
  refine EV_stq mx_51 (pc' := 160) (L' := [some (.ref l0), some (.int l1), none, none, none]) (st' := [.ref l0]) bo_51_159_7b270d rfl ?_
  refine r_gA mx_51 li_51_160 fd_2_21 rfl h (fun a1 h => ?_)
  refine EV_stq mx_51 (pc' := 165) (L' := [some (.ref l0), some (.int l1), none, none, none]) (st' := [.ref l0, .int l1, .ref a1]) bo_51_163_3f0510 rfl ?_
  refine h_ck h (fun hc h => ?_)
  refine h_cI h (fun v3 M2 e h => ?_)
  refine EV_call [.ref l0] [.int l1, .ref a1] mx_51 li_51_165 rfl rfl si_2_49 rfl (by decide) (by decide) (by omega) ma_50 rfl (Nat.le_of_ble_eq_true rfl) rfl rfl (Nat.le_of_ble_eq_true rfl) (rc_1 mt_at_50 rfl rfl (by decide) hc) (e_rd_readInstances (by omega) l0 M _ e) ?_
  show EV d 51 168 [some (.ref l0), some (.int l1), none, none, none] [.int v3, .int l1, .ref a1] M2 _
  refine r_sI mx_51 li_51_168 h (fun M4 h => ?_)
  refine EV_stq mx_51 (pc' := 170) (L' := [some (.ref l0), some (.int l1), none, none, none]) (st' := [.int (1 : Int32)]) bo_51_169_66a7ab rfl ?_
  obtain rfl := Option.some.inj h
  exact r_ret mx_51 li_51_170 rfl (ro_nar (t := .boolean) (by decide) rfl)
theorem e_rd_readStage_148 {d : Nat} (hd : 7 ≤ d) (l0 : Nat) (l1 : Int32) (M : Mem) (r : Int32 × Mem) (h : f_rd_readStage_148 l0 l1 M = some r) : EV d 51 148 [some (.ref l0), some (.int l1), none, none, none] [] M (some (.int r.1), r.2) := by
  unfold f_rd_readStage_148 at h
  refine EV_stq mx_51 (pc' := 151) (L' := [some (.ref l0), some (.int l1), none, none, none]) (st' := [.int (41 : Int32), .ref l0]) bo_51_148_7ae2ea rfl ?_
  refine h_ck h (fun hc h => ?_)
  refine h_cI h (fun v2 M1 e h => ?_)
  refine EV_call [.ref l0, .int (41 : Int32)] [] mx_51 li_51_151 rfl rfl si_2_76 rfl (by decide) (by decide) (by omega) ma_45 rfl (Nat.le_of_ble_eq_true rfl) rfl rfl (Nat.le_of_ble_eq_true rfl) (rc_1 mt_at_45 rfl rfl (by decide) hc) (e_rd_skip (by omega) l0 (41 : Int32) M _ e) ?_
  show EV d 51 154 [some (.ref l0), some (.int l1), none, none, none] [.int v2] M1 _
  refine h_ne h (fun h hc => ?_) (fun h hc => ?_)
  · refine r_ifF mx_51 li_51_154 (by decide) hc ?_
    refine EV_stq mx_51 (pc' := 158) (L' := [some (.ref l0), some (.int l1), none, none, none]) (st' := [.int (0 : Int32)]) bo_51_157_f223cb rfl ?_
    obtain rfl := Option.some.inj h
    exact r_ret mx_51 li_51_158 rfl (ro_nar (t := .boolean) (by decide) rfl)
  · refine r_ifT mx_51 li_51_154 (by decide) rfl hc ?_
    exact e_rd_readStage_159 hd l0 l1 M1 r h
theorem e_rd_readStage_20 {d : Nat} (hd : 7 ≤ d) (l0 : Nat) (l1 : Int32) (s0 : Int32) (M : Mem) (r : Int32 × Mem) (h : f_rd_readStage_20 l0 l1 s0 M = some r) : EV d 51 20 [some (.ref l0), some (.int l1), none, none, none] [.int s0] M (some (.int r.1), r.2) := by
  unfold f_rd_readStage_20 at h
  refine EV_stq mx_51 (pc' := 22) (L' := [some (.ref l0), some (.int l1), none, some (.int s0), none]) (st' := [.int s0]) bo_51_20_aa2fda rfl ?_
  refine h_lt h (fun h hc => ?_) (fun h hc => ?_)
  · refine r_ifT mx_51 li_51_22 (by decide) rfl hc ?_
    refine EV_stq mx_51 (pc' := 35) (L' := [some (.ref l0), some (.int l1), none, some (.int s0), none]) (st' := [.int (0 : Int32)]) bo_51_34_130638 rfl ?_
    obtain rfl := Option.some.inj h
    exact r_ret mx_51 li_51_35 rfl (ro_nar (t := .boolean) (by decide) rfl)
  · refine r_ifF mx_51 li_51_22 (by decide) hc ?_
    refine EV_stq mx_51 (pc' := 26) (L' := [some (.ref l0), some (.int l1), none, some (.int s0), none]) (st' := [.int l1]) bo_51_25_1858f6 rfl ?_
    refine h_lt h (fun h hc => ?_) (fun h hc => ?_)
    · refine r_ifT mx_51 li_51_26 (by decide) rfl hc ?_
      refine EV_stq mx_51 (pc' := 35) (L' := [some (.ref l0), some (.int l1), none, some (.int s0), none]) (st' := [.int (0 : Int32)]) bo_51_34_130638 rfl ?_
      obtain rfl := Option.some.inj h
      exact r_ret mx_51 li_51_35 rfl (ro_nar (t := .boolean) (by decide) rfl)
    · refine r_ifF mx_51 li_51_26 (by decide) hc ?_
      refine EV_stq mx_51 (pc' := 31) (L' := [some (.ref l0), some (.int l1), none, some (.int s0), none]) (st' := [.int (4 : Int32), .int l1]) bo_51_29_2746c1 rfl ?_
      refine h_lt h (fun h hc => ?_) (fun h hc => ?_)
      · refine r_icT mx_51 li_51_31 (by decide) rfl hc ?_
        refine EV_stq mx_51 (pc' := 38) (L' := [some (.ref l0), some (.int l1), none, some (.int s0), none]) (st' := [.ref l0, .ref l0]) bo_51_36_285c9e rfl ?_
        refine r_gI mx_51 li_51_38 fd_2_28 ⟨by decide, by decide⟩ h (fun v1 h => ?_)
        refine EV_stq mx_51 (pc' := 43) (L' := [some (.ref l0), some (.int l1), none, some (.int s0), none]) (st' := [.int (v1 + (1 : Int32)), .ref l0]) bo_51_41_4c2c9e rfl ?_
        refine r_pI mx_51 li_51_43 fd_2_28 (Or.inl rfl) rfl h (fun M2 h => ?_)
        refine EV_stq mx_51 (pc' := 47) (L' := [some (.ref l0), some (.int l1), none, some (.int s0), none]) (st' := [.ref l0]) bo_51_46_4b02d4 rfl ?_
        refine r_gA mx_51 li_51_47 fd_2_9 rfl h (fun a3 h => ?_)
        refine EV_stq mx_51 (pc' := 52) (L' := [some (.ref l0), some (.int l1), none, some (.int s0), none]) (st' := [.int s0, .int l1, .ref a3]) bo_51_50_b22ebb rfl ?_
        refine r_sI mx_51 li_51_52 h (fun M4 h => ?_)
        refine EV_stq mx_51 (pc' := 54) (L' := [some (.ref l0), some (.int l1), none, some (.int s0), none]) (st' := [.ref l0]) bo_51_53_a422c0 rfl ?_
        refine r_gA mx_51 li_51_54 fd_2_15 rfl h (fun a5 h => ?_)
        refine EV_stq mx_51 (pc' := 59) (L' := [some (.ref l0), some (.int l1), none, some (.int s0), none]) (st' := [.int (0 : Int32), .int l1, .ref a5]) bo_51_57_1292c4 rfl ?_
        refine r_sI mx_51 li_51_59 h (fun M6 h => ?_)
        refine EV_stq mx_51 (pc' := 61) (L' := [some (.ref l0), some (.int l1), none, some (.int s0), none]) (st' := [.ref l0]) bo_51_60_1be089 rfl ?_
        refine r_gA mx_51 li_51_61 fd_2_18 rfl h (fun a7 h => ?_)
        refine EV_stq mx_51 (pc' := 66) (L' := [some (.ref l0), some (.int l1), none, some (.int s0), none]) (st' := [.int (0 : Int32), .int l1, .ref a7]) bo_51_64_23d05d rfl ?_
        refine r_sI mx_51 li_51_66 h (fun M8 h => ?_)
        refine EV_stq mx_51 (pc' := 68) (L' := [some (.ref l0), some (.int l1), none, some (.int s0), none]) (st' := [.int s0]) bo_51_67_ded3a4 rfl ?_
        refine h_cI h (fun v10 M9 e h => ?_)
        refine EV_call [.int s0] [] mx_51 li_51_68 rfl rfl si_2_73 rfl (by decide) (by decide) (by omega) ma_44 rfl (Nat.le_of_ble_eq_true rfl) rfl rfl (Nat.le_of_ble_eq_true rfl) rfl (e_x_numbersOf (by omega) s0 M8 _ e) ?_
        show EV d 51 71 [some (.ref l0), some (.int l1), none, some (.int s0), none] [.int v10] M9 _
        refine EV_stq mx_51 (pc' := 75) (L' := [some (.ref l0), some (.int l1), none, some (.int s0), some (.int v10)]) (st' := [.int v10]) bo_51_71_9c239e rfl ?_
        refine h_le h (fun h hc => ?_) (fun h hc => ?_)
        · refine r_ifT mx_51 li_51_75 (by decide) rfl hc ?_
          refine EV_forget (A := [some (.ref l0), some (.int l1), none, none, none]) (lsub_of _ _ ⟨Or.inr rfl, ⟨Or.inr rfl, ⟨Or.inl rfl, ⟨Or.inl rfl, ⟨Or.inl rfl, trivial⟩⟩⟩⟩⟩) ?_
          exact e_rd_readStage_159 hd l0 l1 M9 r h
        · refine r_ifF mx_51 li_51_75 (by decide) hc ?_
          refine EV_stq mx_51 (pc' := 81) (L' := [some (.ref l0), some (.int l1), none, some (.int s0), some (.int v10)]) (st' := [.int (40 : Int32), .ref l0]) bo_51_78_32a02f rfl ?_
          refine h_ck h (fun hc h => ?_)
          refine h_cI h (fun v12 M11 e h => ?_)
          refine EV_call [.ref l0, .int (40 : Int32)] [] mx_51 li_51_81 rfl rfl si_2_76 rfl (by decide) (by decide) (by omega) ma_45 rfl (Nat.le_of_ble_eq_true rfl) rfl rfl (Nat.le_of_ble_eq_true rfl) (rc_1 mt_at_45 rfl rfl (by decide) hc) (e_rd_skip (by omega) l0 (40 : Int32) M9 _ e) ?_
          show EV d 51 84 [some (.ref l0), some (.int l1), none, some (.int s0), some (.int v10)] [.int v12] M11 _
          refine h_eq h (fun h hc => ?_) (fun h hc => ?_)
          · refine r_ifT mx_51 li_51_84 (by decide) rfl hc ?_
            refine EV_stq mx_51 (pc' := 103) (L' := [some (.ref l0), some (.int l1), none, some (.int s0), some (.int v10)]) (st' := [.int (0 : Int32)]) bo_51_102_097908 rfl ?_
            obtain rfl := Option.some.inj h
            exact r_ret mx_51 li_51_103 rfl (ro_nar (t := .boolean) (by decide) rfl)
          · refine r_ifF mx_51 li_51_84 (by decide) hc ?_
            refine EV_stq mx_51 (pc' := 88) (L' := [some (.ref l0), some (.int l1), none, some (.int s0), some (.int v10)]) (st' := [.ref l0]) bo_51_87_816bca rfl ?_
            refine h_ck h (fun hc h => ?_)
            refine h_cI h (fun v14 M13 e h => ?_)
            refine EV_call [.ref l0] [] mx_51 li_51_88 rfl rfl si_2_80 rfl (by decide) (by decide) (by omega) ma_47 rfl (Nat.le_of_ble_eq_true rfl) rfl rfl (Nat.le_of_ble_eq_true rfl) (rc_1 mt_at_47 rfl rfl (by decide) hc) (e_rd_readNumber (by omega) l0 M11 _ e) ?_
            show EV d 51 91 [some (.ref l0), some (.int l1), none, some (.int s0), some (.int v10)] [.int v14] M13 _
            refine h_eq h (fun h hc => ?_) (fun h hc => ?_)
            · refine r_ifT mx_51 li_51_91 (by decide) rfl hc ?_
              refine EV_stq mx_51 (pc' := 103) (L' := [some (.ref l0), some (.int l1), none, some (.int s0), some (.int v10)]) (st' := [.int (0 : Int32)]) bo_51_102_097908 rfl ?_
              obtain rfl := Option.some.inj h
              exact r_ret mx_51 li_51_103 rfl (ro_nar (t := .boolean) (by decide) rfl)
            · refine r_ifF mx_51 li_51_91 (by decide) hc ?_
              refine EV_stq mx_51 (pc' := 96) (L' := [some (.ref l0), some (.int l1), none, some (.int s0), some (.int v10)]) (st' := [.int s0, .ref l0]) bo_51_94_77bae3 rfl ?_
              refine h_ck h (fun hc h => ?_)
              refine h_cI h (fun v16 M15 e h => ?_)
              refine EV_call [.ref l0, .int s0] [] mx_51 li_51_96 rfl rfl si_2_83 rfl (by decide) (by decide) (by omega) ma_48 rfl (Nat.le_of_ble_eq_true rfl) rfl rfl (Nat.le_of_ble_eq_true rfl) (rc_1 mt_at_48 rfl rfl (by decide) hc) (e_rd_inRange (by omega) l0 s0 M13 _ e) ?_
              show EV d 51 99 [some (.ref l0), some (.int l1), none, some (.int s0), some (.int v10)] [.int v16] M15 _
              refine h_ne h (fun h hc => ?_) (fun h hc => ?_)
              · refine r_ifF mx_51 li_51_99 (by decide) hc ?_
                refine EV_stq mx_51 (pc' := 103) (L' := [some (.ref l0), some (.int l1), none, some (.int s0), some (.int v10)]) (st' := [.int (0 : Int32)]) bo_51_102_097908 rfl ?_
                obtain rfl := Option.some.inj h
                exact r_ret mx_51 li_51_103 rfl (ro_nar (t := .boolean) (by decide) rfl)
              · refine r_ifT mx_51 li_51_99 (by decide) rfl hc ?_
                refine EV_stq mx_51 (pc' := 105) (L' := [some (.ref l0), some (.int l1), none, some (.int s0), some (.int v10)]) (st' := [.ref l0]) bo_51_104_a38d21 rfl ?_
                refine r_gA mx_51 li_51_105 fd_2_15 rfl h (fun a17 h => ?_)
                refine EV_stq mx_51 (pc' := 110) (L' := [some (.ref l0), some (.int l1), none, some (.int s0), some (.int v10)]) (st' := [.ref l0, .int l1, .ref a17]) bo_51_108_15ff6a rfl ?_
                refine r_gI mx_51 li_51_110 fd_2_86 ⟨by decide, by decide⟩ h (fun v18 h => ?_)
                refine r_sI mx_51 li_51_113 h (fun M19 h => ?_)
                refine EV_stq mx_51 (pc' := 117) (L' := [some (.ref l0), some (.int l1), none, some (.int s0), some (.int v10)]) (st' := [.int (1 : Int32), .int v10]) bo_51_114_b1d5f4 rfl ?_
                refine h_le h (fun h hc => ?_) (fun h hc => ?_)
                · refine r_icT mx_51 li_51_117 (by decide) rfl hc ?_
                  refine EV_forget (A := [some (.ref l0), some (.int l1), none, none, none]) (lsub_of _ _ ⟨Or.inr rfl, ⟨Or.inr rfl, ⟨Or.inl rfl, ⟨Or.inl rfl, ⟨Or.inl rfl, trivial⟩⟩⟩⟩⟩) ?_
                  exact e_rd_readStage_148 hd l0 l1 M19 r h
                · refine r_icF mx_51 li_51_117 (by decide) hc ?_
                  refine EV_stq mx_51 (pc' := 123) (L' := [some (.ref l0), some (.int l1), none, some (.int s0), some (.int v10)]) (st' := [.int (44 : Int32), .ref l0]) bo_51_120_572ad1 rfl ?_
                  refine h_ck h (fun hc h => ?_)
                  refine h_cI h (fun v21 M20 e h => ?_)
                  refine EV_call [.ref l0, .int (44 : Int32)] [] mx_51 li_51_123 rfl rfl si_2_76 rfl (by decide) (by decide) (by omega) ma_45 rfl (Nat.le_of_ble_eq_true rfl) rfl rfl (Nat.le_of_ble_eq_true rfl) (rc_1 mt_at_45 rfl rfl (by decide) hc) (e_rd_skip (by omega) l0 (44 : Int32) M19 _ e) ?_
                  show EV d 51 126 [some (.ref l0), some (.int l1), none, some (.int s0), some (.int v10)] [.int v21] M20 _
                  refine h_eq h (fun h hc => ?_) (fun h hc => ?_)
                  · refine r_ifT mx_51 li_51_126 (by decide) rfl hc ?_
                    refine EV_stq mx_51 (pc' := 137) (L' := [some (.ref l0), some (.int l1), none, some (.int s0), some (.int v10)]) (st' := [.int (0 : Int32)]) bo_51_136_a8def9 rfl ?_
                    obtain rfl := Option.some.inj h
                    exact r_ret mx_51 li_51_137 rfl (ro_nar (t := .boolean) (by decide) rfl)
                  · refine r_ifF mx_51 li_51_126 (by decide) hc ?_
                    refine EV_stq mx_51 (pc' := 130) (L' := [some (.ref l0), some (.int l1), none, some (.int s0), some (.int v10)]) (st' := [.ref l0]) bo_51_129_624512 rfl ?_
                    refine h_ck h (fun hc h => ?_)
                    refine h_cI h (fun v23 M22 e h => ?_)
                    refine EV_call [.ref l0] [] mx_51 li_51_130 rfl rfl si_2_80 rfl (by decide) (by decide) (by omega) ma_47 rfl (Nat.le_of_ble_eq_true rfl) rfl rfl (Nat.le_of_ble_eq_true rfl) (rc_1 mt_at_47 rfl rfl (by decide) hc) (e_rd_readNumber (by omega) l0 M20 _ e) ?_
                    show EV d 51 133 [some (.ref l0), some (.int l1), none, some (.int s0), some (.int v10)] [.int v23] M22 _
                    refine h_ne h (fun h hc => ?_) (fun h hc => ?_)
                    · refine r_ifF mx_51 li_51_133 (by decide) hc ?_
                      refine EV_stq mx_51 (pc' := 137) (L' := [some (.ref l0), some (.int l1), none, some (.int s0), some (.int v10)]) (st' := [.int (0 : Int32)]) bo_51_136_a8def9 rfl ?_
                      obtain rfl := Option.some.inj h
                      exact r_ret mx_51 li_51_137 rfl (ro_nar (t := .boolean) (by decide) rfl)
                    · refine r_ifT mx_51 li_51_133 (by decide) rfl hc ?_
                      refine EV_stq mx_51 (pc' := 139) (L' := [some (.ref l0), some (.int l1), none, some (.int s0), some (.int v10)]) (st' := [.ref l0]) bo_51_138_dc044b rfl ?_
                      refine r_gA mx_51 li_51_139 fd_2_18 rfl h (fun a24 h => ?_)
                      refine EV_stq mx_51 (pc' := 144) (L' := [some (.ref l0), some (.int l1), none, some (.int s0), some (.int v10)]) (st' := [.ref l0, .int l1, .ref a24]) bo_51_142_6f3fc7 rfl ?_
                      refine r_gI mx_51 li_51_144 fd_2_86 ⟨by decide, by decide⟩ h (fun v25 h => ?_)
                      refine r_sI mx_51 li_51_147 h (fun M26 h => ?_)
                      refine EV_forget (A := [some (.ref l0), some (.int l1), none, none, none]) (lsub_of _ _ ⟨Or.inr rfl, ⟨Or.inr rfl, ⟨Or.inl rfl, ⟨Or.inl rfl, ⟨Or.inl rfl, trivial⟩⟩⟩⟩⟩) ?_
                      exact e_rd_readStage_148 hd l0 l1 M26 r h
      · refine r_icF mx_51 li_51_31 (by decide) hc ?_
        refine EV_stq mx_51 (pc' := 35) (L' := [some (.ref l0), some (.int l1), none, some (.int s0), none]) (st' := [.int (0 : Int32)]) bo_51_34_130638 rfl ?_
        obtain rfl := Option.some.inj h
        exact r_ret mx_51 li_51_35 rfl (ro_nar (t := .boolean) (by decide) rfl)
theorem e_rd_readStage {d : Nat} (hd : 7 ≤ d) (p0 : Nat) (p1 : Int32) (M : Mem) (r : Int32 × Mem) (h : f_rd_readStage p0 p1 M = some r) : EV d 51 0 (entL 5 [.ref p0, .int p1]) [] M (some (.int r.1), r.2) := by
  show EV d 51 0 [some (.ref p0), some (.int p1), none, none, none] [] M _
  unfold f_rd_readStage at h
  refine EV_stq mx_51 (pc' := 1) (L' := [some (.ref p0), some (.int p1), none, none, none]) (st' := [.ref p0]) bo_51_0_8d5162 rfl ?_
  refine h_ck h (fun hc h => ?_)
  refine h_cI h (fun v2 M1 e h => ?_)
  refine EV_call [.ref p0] [] mx_51 li_51_1 rfl rfl si_2_38 rfl (by decide) (by decide) (by omega) ma_35 rfl (Nat.le_of_ble_eq_true rfl) rfl rfl (Nat.le_of_ble_eq_true rfl) (rc_1 mt_at_35 rfl rfl (by decide) hc) (e_rd_sign (by omega) p0 M _ e) ?_
  show EV d 51 4 [some (.ref p0), some (.int p1), none, none, none] [.int v2] M1 _
  refine EV_stq mx_51 (pc' := 6) (L' := [some (.ref p0), some (.int p1), some (.int v2), none, none]) (st' := [.int v2]) bo_51_4_40e659 rfl ?_
  refine h_ge h (fun h hc => ?_) (fun h hc => ?_)
  · refine r_ifT mx_51 li_51_6 (by decide) rfl hc ?_
    refine EV_stq mx_51 (pc' := 17) (L' := [some (.ref p0), some (.int p1), some (.int v2), none, none]) (st' := [.int (v2.toUInt32 % 65536).toInt32, .retAddr 3]) bo_51_13_1b0b55 rfl ?_
    refine h_cI h (fun v4 M3 e h => ?_)
    refine EV_call [.retAddr 3, .int (v2.toUInt32 % 65536).toInt32] [] mx_51 li_51_17 rfl rfl si_2_67 rfl (by decide) (by decide) (by omega) ma_43 rfl (Nat.le_of_ble_eq_true rfl) rfl rfl (Nat.le_of_ble_eq_true rfl) rfl (e_st_indexOf1 (by omega) (v2.toUInt32 % 65536).toInt32 M1 _ e) ?_
    show EV d 51 20 [some (.ref p0), some (.int p1), some (.int v2), none, none] [.int v4] M3 _
    refine EV_forget (A := [some (.ref p0), some (.int p1), none, none, none]) (lsub_of _ _ ⟨Or.inr rfl, ⟨Or.inr rfl, ⟨Or.inl rfl, ⟨Or.inl rfl, ⟨Or.inl rfl, trivial⟩⟩⟩⟩⟩) ?_
    exact e_rd_readStage_20 hd p0 p1 v4 M3 r h
  · refine r_ifF mx_51 li_51_6 (by decide) hc ?_
    refine EV_stq mx_51 (pc' := 20) (L' := [some (.ref p0), some (.int p1), some (.int v2), none, none]) (st' := [.int (-1 : Int32)]) bo_51_9_16efa2 rfl ?_
    refine EV_forget (A := [some (.ref p0), some (.int p1), none, none, none]) (lsub_of _ _ ⟨Or.inr rfl, ⟨Or.inr rfl, ⟨Or.inl rfl, ⟨Or.inl rfl, ⟨Or.inl rfl, trivial⟩⟩⟩⟩⟩) ?_
    exact e_rd_readStage_20 hd p0 p1 (-1 : Int32) M1 r h
theorem e_rd_readStages_32 {d : Nat} (hd : 8 ≤ d) (k2 : Nat → Int32 → Mem → Option (Int32 × Mem)) (hk2 : ∀ l0 l1 M r, k2 l0 l1 M = some r → EV d 52 2 [some (.ref l0), some (.int l1)] [] M (some (.int r.1), r.2)) (l0 : Nat) (l1 : Int32) (M : Mem) (r : Int32 × Mem) (h : f_rd_readStages_32 k2 l0 l1 M = some r) : EV d 52 32 [some (.ref l0), some (.int l1)] [] M (some (.int r.1), r.2) := by
  unfold f_rd_readStages_32 at h
  refine EV_stq mx_52 (pc' := 34) (L' := [some (.ref l0), some (.int l1)]) (st' := [.int l1, .ref l0]) bo_52_32_dac25e rfl ?_
  refine h_ck h (fun hc h => ?_)
  refine h_cI h (fun v2 M1 e h => ?_)
  refine EV_call [.ref l0, .int l1] [] mx_52 li_52_34 rfl rfl si_2_61 rfl (by decide) (by decide) (by omega) ma_51 rfl (Nat.le_of_ble_eq_true rfl) rfl rfl (Nat.le_of_ble_eq_true rfl) (rc_1 mt_at_51 rfl rfl (by decide) hc) (e_rd_readStage (by omega) l0 l1 M _ e) ?_
  show EV d 52 37 [some (.ref l0), some (.int l1)] [.int v2] M1 _
  refine h_ne h (fun h hc => ?_) (fun h hc => ?_)
  · refine r_ifF mx_52 li_52_37 (by decide) hc ?_
    refine EV_stq mx_52 (pc' := 41) (L' := [some (.ref l0), some (.int l1)]) (st' := [.int (0 : Int32)]) bo_52_40_d0cc5b rfl ?_
    obtain rfl := Option.some.inj h
    exact r_ret mx_52 li_52_41 rfl (ro_nar (t := .boolean) (by decide) rfl)
  · refine r_ifT mx_52 li_52_37 (by decide) rfl hc ?_
    refine EV_stq mx_52 (pc' := 46) (L' := [some (.ref l0), some (.int l1)]) (st' := [.int (l1 + (1 : Int32)), .ref l0]) bo_52_42_cbdb6b rfl ?_
    refine r_pI mx_52 li_52_46 fd_2_32 (Or.inl rfl) rfl h (fun M3 h => ?_)
    refine EV_stq mx_52 (pc' := 2) (L' := [some (.ref l0), some (.int (l1 + (1 : Int32)))]) (st' := []) bo_52_49_32e12e rfl ?_
    exact hk2 l0 (l1 + (1 : Int32)) M3 r h
theorem e_rd_readStages_2 {d : Nat} (hd : 8 ≤ d) : ∀ (n : Nat) (l0 : Nat) (l1 : Int32) (M : Mem) (r : Int32 × Mem), f_rd_readStages_2 n l0 l1 M = some r → EV d 52 2 [some (.ref l0), some (.int l1)] [] M (some (.int r.1), r.2) := by
  intro n
  induction n with
  | zero => intro l0 l1 M r h; cases h
  | succ n ih =>
    intro l0 l1 M r h
    unfold f_rd_readStages_2 at h
    refine EV_stq mx_52 (pc' := 4) (L' := [some (.ref l0), some (.int l1)]) (st' := [.int (4 : Int32), .int l1]) bo_52_2_d916f9 rfl ?_
    refine h_ge h (fun h hc => ?_) (fun h hc => ?_)
    · refine r_icT mx_52 li_52_4 (by decide) rfl hc ?_
      refine EV_stq mx_52 (pc' := 56) (L' := [some (.ref l0), some (.int l1)]) (st' := [.int (1 : Int32)]) bo_52_55_bd1207 rfl ?_
      obtain rfl := Option.some.inj h
      exact r_ret mx_52 li_52_56 rfl (ro_nar (t := .boolean) (by decide) rfl)
    · refine r_icF mx_52 li_52_4 (by decide) hc ?_
      refine EV_stq mx_52 (pc' := 8) (L' := [some (.ref l0), some (.int l1)]) (st' := [.int l1]) bo_52_7_9b264f rfl ?_
      refine h_le h (fun h hc => ?_) (fun h hc => ?_)
      · refine r_ifT mx_52 li_52_8 (by decide) rfl hc ?_
        exact e_rd_readStages_32 hd _ ih l0 l1 M r h
      · refine r_ifF mx_52 li_52_8 (by decide) hc ?_
        refine EV_stq mx_52 (pc' := 12) (L' := [some (.ref l0), some (.int l1)]) (st' := [.ref l0]) bo_52_11_081257 rfl ?_
        refine h_ck h (fun hc h => ?_)
        refine h_cI h (fun v2 M1 e h => ?_)
        refine EV_call [.ref l0] [] mx_52 li_52_12 rfl rfl si_2_38 rfl (by decide) (by decide) (by omega) ma_35 rfl (Nat.le_of_ble_eq_true rfl) rfl rfl (Nat.le_of_ble_eq_true rfl) (rc_1 mt_at_35 rfl rfl (by decide) hc) (e_rd_sign (by omega) l0 M _ e) ?_
        show EV d 52 15 [some (.ref l0), some (.int l1)] [.int v2] M1 _
        refine EV_stq mx_52 (pc' := 17) (L' := [some (.ref l0), some (.int l1)]) (st' := [.int (124 : Int32), .int v2]) bo_52_15_be4250 rfl ?_
        refine h_eq h (fun h hc => ?_) (fun h hc => ?_)
        · refine r_icT mx_52 li_52_17 (by decide) rfl hc ?_
          refine EV_stq mx_52 (pc' := 24) (L' := [some (.ref l0), some (.int l1)]) (st' := [.ref l0, .ref l0]) bo_52_22_13b32e rfl ?_
          refine r_gI mx_52 li_52_24 fd_2_28 ⟨by decide, by decide⟩ h (fun v3 h => ?_)
          refine EV_stq mx_52 (pc' := 29) (L' := [some (.ref l0), some (.int l1)]) (st' := [.int (v3 + (1 : Int32)), .ref l0]) bo_52_27_fe3fdb rfl ?_
          refine r_pI mx_52 li_52_29 fd_2_28 (Or.inl rfl) rfl h (fun M4 h => ?_)
          exact e_rd_readStages_32 hd _ ih l0 l1 M4 r h
        · refine r_icF mx_52 li_52_17 (by decide) hc ?_
          refine EV_stq mx_52 (pc' := 21) (L' := [some (.ref l0), some (.int l1)]) (st' := [.int (1 : Int32)]) bo_52_20_baa9a0 rfl ?_
          obtain rfl := Option.some.inj h
          exact r_ret mx_52 li_52_21 rfl (ro_nar (t := .boolean) (by decide) rfl)
theorem e_rd_readStages {d : Nat} (hd : 8 ≤ d) (p0 : Nat) (M : Mem) (r : Int32 × Mem) (h : f_rd_readStages p0 M = some r) : EV d 52 0 (entL 2 [.ref p0]) [] M (some (.int r.1), r.2) := by
  show EV d 52 0 [some (.ref p0), none] [] M _
  unfold f_rd_readStages at h
  refine EV_stq mx_52 (pc' := 2) (L' := [some (.ref p0), some (.int (0 : Int32))]) (st' := []) bo_52_0_264884 rfl ?_
  exact e_rd_readStages_2 hd FU p0 (0 : Int32) M r h
theorem e_rd_readAll_76 {d : Nat} (hd : 9 ≤ d) (l0 : Nat) (M : Mem) (r : Int32 × Mem) (h : f_rd_readAll_76 l0 M = some r) : EV d 53 76 [some (.ref l0)] [] M (some (.int r.1), r.2) := by
  unfold f_rd_readAll_76 at h
  refine EV_stq mx_53 (pc' := 77) (L' := [some (.ref l0)]) (st' := [.ref l0]) bo_53_76_1522cc rfl ?_
  refine h_ck h (fun hc h => ?_)
  refine h_cI h (fun v2 M1 e h => ?_)
  refine EV_call [.ref l0] [] mx_53 li_53_77 rfl rfl si_2_38 rfl (by decide) (by decide) (by omega) ma_35 rfl (Nat.le_of_ble_eq_true rfl) rfl rfl (Nat.le_of_ble_eq_true rfl) (rc_1 mt_at_35 rfl rfl (by decide) hc) (e_rd_sign (by omega) l0 M _ e) ?_
  show EV d 53 80 [some (.ref l0)] [.int v2] M1 _
  refine h_ge h (fun h hc => ?_) (fun h hc => ?_)
  · refine r_ifT mx_53 li_53_80 (by decide) rfl hc ?_
    refine EV_stq mx_53 (pc' := 88) (L' := [some (.ref l0)]) (st' := [.int (0 : Int32)]) bo_53_87_816bca rfl ?_
    obtain rfl := Option.some.inj h
    exact r_ret mx_53 li_53_88 rfl (ro_nar (t := .boolean) (by decide) rfl)
  · refine r_ifF mx_53 li_53_80 (by decide) hc ?_
    refine EV_stq mx_53 (pc' := 88) (L' := [some (.ref l0)]) (st' := [.int (1 : Int32)]) bo_53_83_ae8d26 rfl ?_
    obtain rfl := Option.some.inj h
    exact r_ret mx_53 li_53_88 rfl (ro_nar (t := .boolean) (by decide) rfl)
theorem e_rd_readAll_40 {d : Nat} (hd : 9 ≤ d) (l0 : Nat) (M : Mem) (r : Int32 × Mem) (h : f_rd_readAll_40 l0 M = some r) : EV d 53 40 [some (.ref l0)] [] M (some (.int r.1), r.2) := by
  unfold f_rd_readAll_40 at h
  refine EV_stq mx_53 (pc' := 41) (L' := [some (.ref l0)]) (st' := [.ref l0]) bo_53_40_d0cc5b rfl ?_
  refine h_ck h (fun hc h => ?_)
  refine h_cI h (fun v2 M1 e h => ?_)
  refine EV_call [.ref l0] [] mx_53 li_53_41 rfl rfl si_2_38 rfl (by decide) (by decide) (by omega) ma_35 rfl (Nat.le_of_ble_eq_true rfl) rfl rfl (Nat.le_of_ble_eq_true rfl) (rc_1 mt_at_35 rfl rfl (by decide) hc) (e_rd_sign (by omega) l0 M _ e) ?_
  show EV d 53 44 [some (.ref l0)] [.int v2] M1 _
  refine EV_stq mx_53 (pc' := 46) (L' := [some (.ref l0)]) (st' := [.int (36 : Int32), .int v2]) bo_53_44_56c0aa rfl ?_
  refine h_ne h (fun h hc => ?_) (fun h hc => ?_)
  · refine r_icF mx_53 li_53_46 (by decide) hc ?_
    refine EV_stq mx_53 (pc' := 51) (L' := [some (.ref l0)]) (st' := [.ref l0, .ref l0]) bo_53_49_23be2b rfl ?_
    refine r_gI mx_53 li_53_51 fd_2_28 ⟨by decide, by decide⟩ h (fun v3 h => ?_)
    refine EV_stq mx_53 (pc' := 56) (L' := [some (.ref l0)]) (st' := [.int (v3 + (1 : Int32)), .ref l0]) bo_53_54_a3ab7c rfl ?_
    refine r_pI mx_53 li_53_56 fd_2_28 (Or.inl rfl) rfl h (fun M4 h => ?_)
    refine EV_stq mx_53 (pc' := 60) (L' := [some (.ref l0)]) (st' := [.ref l0]) bo_53_59_8c3b95 rfl ?_
    refine h_ck h (fun hc h => ?_)
    refine h_cI h (fun v6 M5 e h => ?_)
    refine EV_call [.ref l0] [] mx_53 li_53_60 rfl rfl si_2_46 rfl (by decide) (by decide) (by omega) ma_49 rfl (Nat.le_of_ble_eq_true rfl) rfl rfl (Nat.le_of_ble_eq_true rfl) (rc_1 mt_at_49 rfl rfl (by decide) hc) (e_rd_atInstances (by omega) l0 M4 _ e) ?_
    show EV d 53 63 [some (.ref l0)] [.int v6] M5 _
    refine h_ne h (fun h hc => ?_) (fun h hc => ?_)
    · refine r_ifF mx_53 li_53_63 (by decide) hc ?_
      refine EV_stq mx_53 (pc' := 67) (L' := [some (.ref l0)]) (st' := [.int (0 : Int32)]) bo_53_66_831ba3 rfl ?_
      obtain rfl := Option.some.inj h
      exact r_ret mx_53 li_53_67 rfl (ro_nar (t := .boolean) (by decide) rfl)
    · refine r_ifT mx_53 li_53_63 (by decide) rfl hc ?_
      refine EV_stq mx_53 (pc' := 70) (L' := [some (.ref l0)]) (st' := [.ref l0, .ref l0]) bo_53_68_702533 rfl ?_
      refine h_ck h (fun hc h => ?_)
      refine h_cI h (fun v8 M7 e h => ?_)
      refine EV_call [.ref l0] [.ref l0] mx_53 li_53_70 rfl rfl si_2_49 rfl (by decide) (by decide) (by omega) ma_50 rfl (Nat.le_of_ble_eq_true rfl) rfl rfl (Nat.le_of_ble_eq_true rfl) (rc_1 mt_at_50 rfl rfl (by decide) hc) (e_rd_readInstances (by omega) l0 M5 _ e) ?_
      show EV d 53 73 [some (.ref l0)] [.int v8, .ref l0] M7 _
      refine r_pI mx_53 li_53_73 fd_2_35 (Or.inl rfl) rfl h (fun M9 h => ?_)
      exact e_rd_readAll_76 hd l0 M9 r h
  · refine r_icT mx_53 li_53_46 (by decide) rfl hc ?_
    exact e_rd_readAll_76 hd l0 M1 r h
theorem e_rd_readAll {d : Nat} (hd : 9 ≤ d) (p0 : Nat) (M : Mem) (r : Int32 × Mem) (h : f_rd_readAll p0 M = some r) : EV d 53 0 (entL 1 [.ref p0]) [] M (some (.int r.1), r.2) := by
  show EV d 53 0 [some (.ref p0)] [] M _
  unfold f_rd_readAll at h
  refine EV_stq mx_53 (pc' := 2) (L' := [some (.ref p0)]) (st' := [.int (0 : Int32), .ref p0]) bo_53_0_264884 rfl ?_
  refine r_pI mx_53 li_53_2 fd_2_28 (Or.inl rfl) rfl h (fun M1 h => ?_)
  refine EV_stq mx_53 (pc' := 7) (L' := [some (.ref p0)]) (st' := [.int (0 : Int32), .ref p0]) bo_53_5_ca77c4 rfl ?_
  refine r_pI mx_53 li_53_7 fd_2_32 (Or.inl rfl) rfl h (fun M2 h => ?_)
  refine EV_stq mx_53 (pc' := 12) (L' := [some (.ref p0)]) (st' := [.int (1 : Int32), .ref p0]) bo_53_10_42a704 rfl ?_
  refine r_pI mx_53 li_53_12 fd_2_35 (Or.inl rfl) rfl h (fun M3 h => ?_)
  refine EV_stq mx_53 (pc' := 16) (L' := [some (.ref p0)]) (st' := [.ref p0]) bo_53_15_be4250 rfl ?_
  refine h_ck h (fun hc h => ?_)
  refine h_cI h (fun v5 M4 e h => ?_)
  refine EV_call [.ref p0] [] mx_53 li_53_16 rfl rfl si_2_38 rfl (by decide) (by decide) (by omega) ma_35 rfl (Nat.le_of_ble_eq_true rfl) rfl rfl (Nat.le_of_ble_eq_true rfl) (rc_1 mt_at_35 rfl rfl (by decide) hc) (e_rd_sign (by omega) p0 M3 _ e) ?_
  show EV d 53 19 [some (.ref p0)] [.int v5] M4 _
  refine EV_stq mx_53 (pc' := 21) (L' := [some (.ref p0)]) (st' := [.int (36 : Int32), .int v5]) bo_53_19_1a8444 rfl ?_
  refine h_eq h (fun h hc => ?_) (fun h hc => ?_)
  · refine r_icT mx_53 li_53_21 (by decide) rfl hc ?_
    exact e_rd_readAll_40 hd p0 M4 r h
  · refine r_icF mx_53 li_53_21 (by decide) hc ?_
    refine EV_stq mx_53 (pc' := 25) (L' := [some (.ref p0)]) (st' := [.ref p0]) bo_53_24_99aa1d rfl ?_
    refine h_ck h (fun hc h => ?_)
    refine h_cI h (fun v7 M6 e h => ?_)
    refine EV_call [.ref p0] [] mx_53 li_53_25 rfl rfl si_2_38 rfl (by decide) (by decide) (by omega) ma_35 rfl (Nat.le_of_ble_eq_true rfl) rfl rfl (Nat.le_of_ble_eq_true rfl) (rc_1 mt_at_35 rfl rfl (by decide) hc) (e_rd_sign (by omega) p0 M4 _ e) ?_
    show EV d 53 28 [some (.ref p0)] [.int v7] M6 _
    refine h_lt h (fun h hc => ?_) (fun h hc => ?_)
    · refine r_ifT mx_53 li_53_28 (by decide) rfl hc ?_
      exact e_rd_readAll_40 hd p0 M6 r h
    · refine r_ifF mx_53 li_53_28 (by decide) hc ?_
      refine EV_stq mx_53 (pc' := 32) (L' := [some (.ref p0)]) (st' := [.ref p0]) bo_53_31_c379e3 rfl ?_
      refine h_ck h (fun hc h => ?_)
      refine h_cI h (fun v9 M8 e h => ?_)
      refine EV_call [.ref p0] [] mx_53 li_53_32 rfl rfl si_2_42 rfl (by decide) (by decide) (by omega) ma_52 rfl (Nat.le_of_ble_eq_true rfl) rfl rfl (Nat.le_of_ble_eq_true rfl) (rc_1 mt_at_52 rfl rfl (by decide) hc) (e_rd_readStages (by omega) p0 M6 _ e) ?_
      show EV d 53 35 [some (.ref p0)] [.int v9] M8 _
      refine h_ne h (fun h hc => ?_) (fun h hc => ?_)
      · refine r_ifF mx_53 li_53_35 (by decide) hc ?_
        refine EV_stq mx_53 (pc' := 39) (L' := [some (.ref p0)]) (st' := [.int (0 : Int32)]) bo_53_38_c8c763 rfl ?_
        obtain rfl := Option.some.inj h
        exact r_ret mx_53 li_53_39 rfl (ro_nar (t := .boolean) (by decide) rfl)
      · refine r_ifT mx_53 li_53_35 (by decide) rfl hc ?_
        exact e_rd_readAll_40 hd p0 M8 r h
theorem e_ab_setLength_76 {d : Nat} (hd : 4 ≤ d) (l0 : Nat) (l1 : Int32) (M : Mem) (r : Mem) (h : f_ab_setLength_76 l0 l1 M = some r) : EV d 54 76 [some (.ref l0), some (.int l1)] [] M (none, r) := by
  unfold f_ab_setLength_76 at h
  refine EV_stq mx_54 (pc' := 78) (L' := [some (.ref l0), some (.int l1)]) (st' := [.int l1, .ref l0]) bo_54_76_3caaf4 rfl ?_
  refine r_pI mx_54 li_54_78 fd_0_79 (Or.inl rfl) rfl h (fun M1 h => ?_)
  obtain rfl := Option.some.inj h
  exact r_ret mx_54 li_54_81 rfl rfl
theorem e_ab_setLength {d : Nat} (hd : 4 ≤ d) (p0 : Nat) (p1 : Int32) (M : Mem) (r : Mem) (h : f_ab_setLength p0 p1 M = some r) : EV d 54 0 (entL 2 [.ref p0, .int p1]) [] M (none, r) := by
  show EV d 54 0 [some (.ref p0), some (.int p1)] [] M _
  unfold f_ab_setLength at h
  refine EV_stq mx_54 (pc' := 1) (L' := [some (.ref p0), some (.int p1)]) (st' := [.int p1]) bo_54_0_8d5162 rfl ?_
  refine h_ge h (fun h hc => ?_) (fun h hc => ?_)
  · refine r_ifT mx_54 li_54_1 (by decide) rfl hc ?_
    refine EV_stq mx_54 (pc' := 15) (L' := [some (.ref p0), some (.int p1)]) (st' := [.int p1, .ref p0]) bo_54_13_1f05a9 rfl ?_
    refine h_ck h (fun hc h => ?_)
    refine h_cV h (fun M1 e h => ?_)
    refine EV_call [.ref p0, .int p1] [] mx_54 li_54_15 rfl rfl si_0_100 rfl (by decide) (by decide) (by omega) ma_23 rfl (Nat.le_of_ble_eq_true rfl) rfl rfl (Nat.le_of_ble_eq_true rfl) (rc_34 (by decide) hc) (e_ab_ensureCapacityInternal (by omega) p0 p1 M _ e) ?_
    show EV d 54 18 [some (.ref p0), some (.int p1)] [] M1 _
    refine EV_stq mx_54 (pc' := 19) (L' := [some (.ref p0), some (.int p1)]) (st' := [.ref p0]) bo_54_18_2b31d8 rfl ?_
    refine r_gI mx_54 li_54_19 fd_0_79 ⟨by decide, by decide⟩ h (fun v2 h => ?_)
    refine EV_stq mx_54 (pc' := 23) (L' := [some (.ref p0), some (.int p1)]) (st' := [.int p1, .int v2]) bo_54_22_60ac31 rfl ?_
    refine h_ge h (fun h hc => ?_) (fun h hc => ?_)
    · refine r_icT mx_54 li_54_23 (by decide) rfl hc ?_
      refine EV_stq mx_54 (pc' := 64) (L' := [some (.ref p0), some (.int p1)]) (st' := [.ref p0]) bo_54_63_e22c52 rfl ?_
      refine r_gI mx_54 li_54_64 fd_0_79 ⟨by decide, by decide⟩ h (fun v3 h => ?_)
      refine EV_stq mx_54 (pc' := 68) (L' := [some (.ref p0), some (.int p1)]) (st' := [.int p1, .int v3]) bo_54_67_ded3a4 rfl ?_
      refine h_le h (fun h hc => ?_) (fun h hc => ?_)
      · refine r_icT mx_54 li_54_68 (by decide) rfl hc ?_
        exact e_ab_setLength_76 hd p0 p1 M1 r h
      · refine r_icF mx_54 li_54_68 (by decide) hc ?_
        refine EV_stq mx_54 (pc' := 73) (L' := [some (.ref p0), some (.int p1)]) (st' := [.int (1 : Int32), .ref p0]) bo_54_71_0bf829 rfl ?_
        refine r_pZ mx_54 li_54_73 fd_0_73 (Or.inl rfl) rfl h (fun M4 h => ?_)
        exact e_ab_setLength_76 hd p0 p1 M4 r h
    · refine r_icF mx_54 li_54_23 (by decide) hc ?_
      refine EV_stq mx_54 (pc' := 27) (L' := [some (.ref p0), some (.int p1)]) (st' := [.ref p0]) bo_54_26_bd3b31 rfl ?_
      refine h_ck h (fun hc h => ?_)
      refine h_cI h (fun v6 M5 e h => ?_)
      refine EV_call [.ref p0] [] mx_54 li_54_27 rfl rfl si_0_83 rfl (by decide) (by decide) (by omega) ma_24 rfl (Nat.le_of_ble_eq_true rfl) rfl rfl (Nat.le_of_ble_eq_true rfl) (rc_34 (by decide) hc) (e_ab_isLatin1 (by omega) p0 M1 _ e) ?_
      show EV d 54 30 [some (.ref p0), some (.int p1)] [.int v6] M5 _
      refine h_eq h (fun h hc => ?_) (fun h hc => ?_)
      · refine r_ifT mx_54 li_54_30 (by decide) rfl hc ?_
        refine EV_stq mx_54 (pc' := 49) (L' := [some (.ref p0), some (.int p1)]) (st' := [.ref p0]) bo_54_48_04c55a rfl ?_
        refine r_gA mx_54 li_54_49 fd_0_15 rfl h (fun a7 h => ?_)
        refine EV_stq mx_54 (pc' := 53) (L' := [some (.ref p0), some (.int p1)]) (st' := [.ref p0, .ref a7]) bo_54_52_118d3f rfl ?_
        refine r_gI mx_54 li_54_53 fd_0_79 ⟨by decide, by decide⟩ h (fun v8 h => ?_)
        cases h
      · refine r_ifF mx_54 li_54_30 (by decide) hc ?_
        refine EV_stq mx_54 (pc' := 34) (L' := [some (.ref p0), some (.int p1)]) (st' := [.ref p0]) bo_54_33_1dc721 rfl ?_
        refine r_gA mx_54 li_54_34 fd_0_15 rfl h (fun a9 h => ?_)
        refine EV_stq mx_54 (pc' := 38) (L' := [some (.ref p0), some (.int p1)]) (st' := [.ref p0, .ref a9]) bo_54_37_a21c9f rfl ?_
        refine r_gI mx_54 li_54_38 fd_0_79 ⟨by decide, by decide⟩ h (fun v10 h => ?_)
        cases h
  · refine r_ifF mx_54 li_54_1 (by decide) hc ?_
    cases h
theorem e_sb_setLength {d : Nat} (hd : 5 ≤ d) (p0 : Nat) (p1 : Int32) (M : Mem) (r : Mem) (h : f_sb_setLength p0 p1 M = some r) : EV d 55 0 (entL 2 [.ref p0, .int p1]) [] M (none, r) := by
  show EV d 55 0 [some (.ref p0), some (.int p1)] [] M _
  unfold f_sb_setLength at h
  refine EV_stq mx_55 (pc' := 2) (L' := [some (.ref p0), some (.int p1)]) (st' := [.int p1, .ref p0]) bo_55_0_264884 rfl ?_
  refine h_ck h (fun hc h => ?_)
  refine h_cV h (fun M1 e h => ?_)
  refine EV_call [.ref p0, .int p1] [] mx_55 li_55_2 rfl rfl si_1_333 rfl (by decide) (by decide) (by omega) ma_54 rfl (Nat.le_of_ble_eq_true rfl) rfl rfl (Nat.le_of_ble_eq_true rfl) (rc_34 (by decide) hc) (e_ab_setLength (by omega) p0 p1 M _ e) ?_
  show EV d 55 5 [some (.ref p0), some (.int p1)] [] M1 _
  obtain rfl := Option.some.inj h
  exact r_ret mx_55 li_55_5 rfl rfl
theorem e_sm_operatorAt {d : Nat} (hd : 0 ≤ d) (p0 : Nat) (p1 : Int32) (M : Mem) (r : Option Nat × Mem) (h : f_sm_operatorAt p0 p1 M = some r) : EV d 56 0 (entL 2 [.ref p0, .int p1]) [] M (some (rfv r.1), r.2) := by
  show EV d 56 0 [some (.ref p0), some (.int p1)] [] M _
  unfold f_sm_operatorAt at h
  refine EV_stq mx_56 (pc' := 1) (L' := [some (.ref p0), some (.int p1)]) (st' := [.int p1]) bo_56_0_8d5162 rfl ?_
  refine h_lt h (fun h hc => ?_) (fun h hc => ?_)
  · refine r_ifT mx_56 li_56_1 (by decide) rfl hc ?_
    refine EV_stq mx_56 (pc' := 33) (L' := [some (.ref p0), some (.int p1)]) (st' := [.null]) bo_56_23_31ad6f rfl ?_
    obtain rfl := Option.some.inj h
    exact r_ret mx_56 li_56_33 rfl rfl
  · refine r_ifF mx_56 li_56_1 (by decide) hc ?_
    refine EV_stq mx_56 (pc' := 6) (L' := [some (.ref p0), some (.int p1)]) (st' := [.ref p0, .int p1]) bo_56_4_40e659 rfl ?_
    refine r_gI mx_56 li_56_6 fd_10_50 ⟨by decide, by decide⟩ h (fun v1 h => ?_)
    refine EV_stq mx_56 (pc' := 11) (L' := [some (.ref p0), some (.int p1)]) (st' := [.int (v1 + (1 : Int32)), .int p1]) bo_56_9_16efa2 rfl ?_
    refine h_gt h (fun h hc => ?_) (fun h hc => ?_)
    · refine r_icT mx_56 li_56_11 (by decide) rfl hc ?_
      refine EV_stq mx_56 (pc' := 33) (L' := [some (.ref p0), some (.int p1)]) (st' := [.null]) bo_56_23_31ad6f rfl ?_
      obtain rfl := Option.some.inj h
      exact r_ret mx_56 li_56_33 rfl rfl
    · refine r_icF mx_56 li_56_11 (by decide) hc ?_
      refine EV_stq mx_56 (pc' := 16) (L' := [some (.ref p0), some (.int p1)]) (st' := [.ref p0, .int p1]) bo_56_14_4d7356 rfl ?_
      refine r_gA mx_56 li_56_16 fd_10_29 rfl h (fun a2 h => ?_)
      refine r_aN mx_56 li_56_19 h (fun v3 h => ?_)
      refine h_lt h (fun h hc => ?_) (fun h hc => ?_)
      · refine r_icT mx_56 li_56_20 (by decide) rfl hc ?_
        refine EV_stq mx_56 (pc' := 28) (L' := [some (.ref p0), some (.int p1)]) (st' := [.ref p0]) bo_56_27_58fada rfl ?_
        refine r_gA mx_56 li_56_28 fd_10_29 rfl h (fun a4 h => ?_)
        refine EV_stq mx_56 (pc' := 32) (L' := [some (.ref p0), some (.int p1)]) (st' := [.int p1, .ref a4]) bo_56_31_c379e3 rfl ?_
        refine r_aA mx_56 li_56_32 h (fun a5 h => ?_)
        obtain rfl := Option.some.inj h
        exact r_ret mx_56 li_56_33 rfl rfl
      · refine r_icF mx_56 li_56_20 (by decide) hc ?_
        refine EV_stq mx_56 (pc' := 33) (L' := [some (.ref p0), some (.int p1)]) (st' := [.null]) bo_56_23_31ad6f rfl ?_
        obtain rfl := Option.some.inj h
        exact r_ret mx_56 li_56_33 rfl rfl
theorem e_ar_fill_5 {d : Nat} (hd : 0 ≤ d) : ∀ (n : Nat) (l0 : Nat) (l1 : Int32) (l2 : Int32) (l3 : Int32) (M : Mem) (r : Mem), f_ar_fill_5 n l0 l1 l2 l3 M = some r → EV d 57 5 [some (.ref l0), some (.int l1), some (.int l2), some (.int l3)] [] M (none, r) := by
  intro n
  induction n with
  | zero => intro l0 l1 l2 l3 M r h; cases h
  | succ n ih =>
    intro l0 l1 l2 l3 M r h
    unfold f_ar_fill_5 at h
    refine EV_stq mx_57 (pc' := 7) (L' := [some (.ref l0), some (.int l1), some (.int l2), some (.int l3)]) (st' := [.int l3, .int l2]) bo_57_5_ca77c4 rfl ?_
    refine h_ge h (fun h hc => ?_) (fun h hc => ?_)
    · refine r_icT mx_57 li_57_7 (by decide) rfl hc ?_
      obtain rfl := Option.some.inj h
      exact r_ret mx_57 li_57_20 rfl rfl
    · refine r_icF mx_57 li_57_7 (by decide) hc ?_
      refine EV_stq mx_57 (pc' := 13) (L' := [some (.ref l0), some (.int l1), some (.int l2), some (.int l3)]) (st' := [.int l1, .int l2, .ref l0]) bo_57_10_4b0123 rfl ?_
      refine r_sI mx_57 li_57_13 h (fun M1 h => ?_)
      refine EV_stq mx_57 (pc' := 5) (L' := [some (.ref l0), some (.int l1), some (.int (l2 + (1 : Int32))), some (.int l3)]) (st' := []) bo_57_14_071393 rfl ?_
      exact ih l0 l1 (l2 + (1 : Int32)) l3 M1 r h
theorem e_ar_fill {d : Nat} (hd : 0 ≤ d) (p0 : Nat) (p1 : Int32) (M : Mem) (r : Mem) (h : f_ar_fill p0 p1 M = some r) : EV d 57 0 (entL 4 [.ref p0, .int p1]) [] M (none, r) := by
  show EV d 57 0 [some (.ref p0), some (.int p1), none, none] [] M _
  unfold f_ar_fill at h
  refine EV_stq mx_57 (pc' := 3) (L' := [some (.ref p0), some (.int p1), some (.int (0 : Int32)), none]) (st' := [.ref p0]) bo_57_0_8b3750 rfl ?_
  refine r_aN mx_57 li_57_3 h (fun v1 h => ?_)
  refine EV_stq mx_57 (pc' := 5) (L' := [some (.ref p0), some (.int p1), some (.int (0 : Int32)), some (.int v1)]) (st' := []) bo_57_4_e962e2 rfl ?_
  exact e_ar_fill_5 hd FU p0 p1 (0 : Int32) v1 M r h
theorem e_ky_wipe {d : Nat} (hd : 1 ≤ d) (p0 : Nat) (M : Mem) (r : Mem) (h : f_ky_wipe p0 M = some r) : EV d 58 0 (entL 1 [.ref p0]) [] M (none, r) := by
  show EV d 58 0 [some (.ref p0)] [] M _
  unfold f_ky_wipe at h
  refine EV_stq mx_58 (pc' := 1) (L' := [some (.ref p0)]) (st' := [.ref p0]) bo_58_0_8d5162 rfl ?_
  refine r_gA mx_58 li_58_1 fd_6_9 rfl h (fun a1 h => ?_)
  refine EV_stq mx_58 (pc' := 5) (L' := [some (.ref p0)]) (st' := [.int (0 : Int32), .ref a1]) bo_58_4_e962e2 rfl ?_
  refine h_cV h (fun M2 e h => ?_)
  refine EV_call [.ref a1, .int (0 : Int32)] [] mx_58 li_58_5 rfl rfl si_6_28 rfl (by decide) (by decide) (by omega) ma_57 rfl (Nat.le_of_ble_eq_true rfl) rfl rfl (Nat.le_of_ble_eq_true rfl) rfl (e_ar_fill (by omega) a1 (0 : Int32) M _ e) ?_
  show EV d 58 8 [some (.ref p0)] [] M2 _
  refine EV_stq mx_58 (pc' := 9) (L' := [some (.ref p0)]) (st' := [.ref p0]) bo_58_8_383530 rfl ?_
  refine r_gA mx_58 li_58_9 fd_6_15 rfl h (fun a3 h => ?_)
  refine EV_stq mx_58 (pc' := 13) (L' := [some (.ref p0)]) (st' := [.int (0 : Int32), .ref a3]) bo_58_12_d0d0c9 rfl ?_
  refine h_cV h (fun M4 e h => ?_)
  refine EV_call [.ref a3, .int (0 : Int32)] [] mx_58 li_58_13 rfl rfl si_6_28 rfl (by decide) (by decide) (by omega) ma_57 rfl (Nat.le_of_ble_eq_true rfl) rfl rfl (Nat.le_of_ble_eq_true rfl) rfl (e_ar_fill (by omega) a3 (0 : Int32) M2 _ e) ?_
  show EV d 58 16 [some (.ref p0)] [] M4 _
  refine EV_stq mx_58 (pc' := 18) (L' := [some (.ref p0)]) (st' := [.int (0 : Int32), .ref p0]) bo_58_16_f4f9fa rfl ?_
  refine r_pI mx_58 li_58_18 fd_6_18 (Or.inl rfl) rfl h (fun M5 h => ?_)
  obtain rfl := Option.some.inj h
  exact r_ret mx_58 li_58_21 rfl rfl
theorem e_is_resetCounters {d : Nat} (hd : 0 ≤ d) (p0 : Nat) (M : Mem) (r : Mem) (h : f_is_resetCounters p0 M = some r) : EV d 59 0 (entL 1 [.ref p0]) [] M (none, r) := by
  show EV d 59 0 [some (.ref p0)] [] M _
  unfold f_is_resetCounters at h
  refine EV_stq mx_59 (pc' := 2) (L' := [some (.ref p0)]) (st' := [.int (0 : Int32), .ref p0]) bo_59_0_264884 rfl ?_
  refine r_pI mx_59 li_59_2 fd_7_18 (Or.inl rfl) rfl h (fun M1 h => ?_)
  refine EV_stq mx_59 (pc' := 7) (L' := [some (.ref p0)]) (st' := [.int (0 : Int32), .ref p0]) bo_59_5_ca77c4 rfl ?_
  refine r_pI mx_59 li_59_7 fd_7_22 (Or.inl rfl) rfl h (fun M2 h => ?_)
  obtain rfl := Option.some.inj h
  exact r_ret mx_59 li_59_10 rfl rfl
