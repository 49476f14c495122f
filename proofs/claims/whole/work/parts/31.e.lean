theorem bo_60_30_c7d85e : ∀ e ∈ ([(30, .iinc 3 1, 33), (33, .goto (-23), 36)] : List (Nat × Instr × Nat)), il_60.lookup e.1 = some e.2 := by decide +kernel
theorem bo_60_10_42a704 : ∀ e ∈ ([(10, .iload_n 3, 11), (11, .iload_n 2, 12)] : List (Nat × Instr × Nat)), il_60.lookup e.1 = some e.2 := by decide +kernel
theorem li_60_12 : il_60.lookup 12 = some (.if_icmp .ge 24, 15) := by decide +kernel
theorem li_60_36 : il_60.lookup 36 = some (.return_, 37) := by decide +kernel
theorem bo_60_15_d45c32 : ∀ e ∈ ([(15, .aload_n 1, 16), (16, .iload_n 3, 17)] : List (Nat × Instr × Nat)), il_60.lookup e.1 = some e.2 := by decide +kernel
theorem li_60_17 : il_60.lookup 17 = some (.aaload, 18) := by decide +kernel
theorem bo_60_18_09e76f : ∀ e ∈ ([(18, .astore 4, 20), (20, .aload 4, 22), (22, .ifnull 8, 25), (25, .aload 4, 27)] : List (Nat × Instr × Nat)), il_60.lookup e.1 = some e.2 := by decide +kernel
theorem li_60_27 : il_60.lookup 27 = some (.invokevirtual 86, 30) := by decide +kernel
theorem bo_60_0_8d5162 : ∀ e ∈ ([(0, .aload_n 0, 1)] : List (Nat × Instr × Nat)), il_60.lookup e.1 = some e.2 := by decide +kernel
theorem li_60_1 : il_60.lookup 1 = some (.getfield 11, 4) := by decide +kernel
theorem bo_60_4_40e659 : ∀ e ∈ ([(4, .astore_n 1, 5), (5, .aload_n 1, 6)] : List (Nat × Instr × Nat)), il_60.lookup e.1 = some e.2 := by decide +kernel
theorem li_60_6 : il_60.lookup 6 = some (.arraylength, 7) := by decide +kernel
theorem bo_60_7_6bece7 : ∀ e ∈ ([(7, .istore_n 2, 8), (8, .iconst 0, 9), (9, .istore_n 3, 10)] : List (Nat × Instr × Nat)), il_60.lookup e.1 = some e.2 := by decide +kernel
theorem bo_61_0_8d5162 : ∀ e ∈ ([(0, .aload_n 0, 1)] : List (Nat × Instr × Nat)), il_61.lookup e.1 = some e.2 := by decide +kernel
theorem li_61_1 : il_61.lookup 1 = some (.getfield 27, 4) := by decide +kernel
theorem li_61_4 : il_61.lookup 4 = some (.invokevirtual 68, 7) := by decide +kernel
theorem bo_61_7_7eef78 : ∀ e ∈ ([(7, .aload_n 0, 8), (8, .iconst 0, 9)] : List (Nat × Instr × Nat)), il_61.lookup e.1 = some e.2 := by decide +kernel
theorem li_61_9 : il_61.lookup 9 = some (.putfield 71, 12) := by decide +kernel
theorem bo_61_12_1089ca : ∀ e ∈ ([(12, .aload_n 0, 13), (13, .iconst 0, 14)] : List (Nat × Instr × Nat)), il_61.lookup e.1 = some e.2 := by decide +kernel
theorem li_61_14 : il_61.lookup 14 = some (.putfield 74, 17) := by decide +kernel
theorem bo_61_17_03196b : ∀ e ∈ ([(17, .aload_n 0, 18), (18, .iconst 0, 19)] : List (Nat × Instr × Nat)), il_61.lookup e.1 = some e.2 := by decide +kernel
theorem li_61_19 : il_61.lookup 19 = some (.putfield 77, 22) := by decide +kernel
theorem bo_61_22_13b32e : ∀ e ∈ ([(22, .aload_n 0, 23), (23, .iconst 0, 24)] : List (Nat × Instr × Nat)), il_61.lookup e.1 = some e.2 := by decide +kernel
theorem li_61_24 : il_61.lookup 24 = some (.putfield 80, 27) := by decide +kernel
theorem bo_61_27_58fada : ∀ e ∈ ([(27, .aload_n 0, 28)] : List (Nat × Instr × Nat)), il_61.lookup e.1 = some e.2 := by decide +kernel
theorem li_61_28 : il_61.lookup 28 = some (.invokevirtual 83, 31) := by decide +kernel
theorem li_61_31 : il_61.lookup 31 = some (.return_, 32) := by decide +kernel
theorem bo_62_0_8d5162 : ∀ e ∈ ([(0, .aload_n 0, 1)] : List (Nat × Instr × Nat)), il_62.lookup e.1 = some e.2 := by decide +kernel
theorem li_62_1 : il_62.lookup 1 = some (.getfield 7, 4) := by decide +kernel
theorem bo_62_4_e962e2 : ∀ e ∈ ([(4, .iconst 0, 5)] : List (Nat × Instr × Nat)), il_62.lookup e.1 = some e.2 := by decide +kernel
theorem li_62_5 : il_62.lookup 5 = some (.invokestatic 38, 8) := by decide +kernel
theorem bo_62_8_0adad6 : ∀ e ∈ ([(8, .aload_n 0, 9), (9, .iconst 0, 10)] : List (Nat × Instr × Nat)), il_62.lookup e.1 = some e.2 := by decide +kernel
theorem li_62_10 : il_62.lookup 10 = some (.putfield 29, 13) := by decide +kernel
theorem bo_62_13_1f05a9 : ∀ e ∈ ([(13, .aload_n 0, 14), (14, .iconst 0, 15)] : List (Nat × Instr × Nat)), il_62.lookup e.1 = some e.2 := by decide +kernel
theorem li_62_15 : il_62.lookup 15 = some (.putfield 33, 18) := by decide +kernel
theorem li_62_18 : il_62.lookup 18 = some (.return_, 19) := by decide +kernel
theorem bo_63_0_264884 : ∀ e ∈ ([(0, .aload_n 0, 1), (1, .iconst 0, 2)] : List (Nat × Instr × Nat)), il_63.lookup e.1 = some e.2 := by decide +kernel
theorem li_63_2 : il_63.lookup 2 = some (.putfield 26, 5) := by decide +kernel
theorem bo_63_5_ca77c4 : ∀ e ∈ ([(5, .aload_n 0, 6), (6, .iconst 0, 7)] : List (Nat × Instr × Nat)), il_63.lookup e.1 = some e.2 := by decide +kernel
theorem li_63_7 : il_63.lookup 7 = some (.putfield 23, 10) := by decide +kernel
theorem li_63_10 : il_63.lookup 10 = some (.return_, 11) := by decide +kernel
theorem bo_64_0_8d5162 : ∀ e ∈ ([(0, .aload_n 0, 1)] : List (Nat × Instr × Nat)), il_64.lookup e.1 = some e.2 := by decide +kernel
theorem li_64_1 : il_64.lookup 1 = some (.getfield 12, 4) := by decide +kernel
theorem li_64_4 : il_64.lookup 4 = some (.invokevirtual 65, 7) := by decide +kernel
theorem bo_64_7_7eef78 : ∀ e ∈ ([(7, .aload_n 0, 8), (8, .iconst 0, 9)] : List (Nat × Instr × Nat)), il_64.lookup e.1 = some e.2 := by decide +kernel
theorem li_64_9 : il_64.lookup 9 = some (.putfield 59, 12) := by decide +kernel
theorem bo_64_12_1089ca : ∀ e ∈ ([(12, .aload_n 0, 13), (13, .iconst 0, 14)] : List (Nat × Instr × Nat)), il_64.lookup e.1 = some e.2 := by decide +kernel
theorem li_64_14 : il_64.lookup 14 = some (.putfield 26, 17) := by decide +kernel
theorem bo_64_17_03196b : ∀ e ∈ ([(17, .aload_n 0, 18), (18, .iconst 0, 19)] : List (Nat × Instr × Nat)), il_64.lookup e.1 = some e.2 := by decide +kernel
theorem li_64_19 : il_64.lookup 19 = some (.putfield 35, 22) := by decide +kernel
theorem bo_64_22_13b32e : ∀ e ∈ ([(22, .aload_n 0, 23), (23, .iconst 0, 24)] : List (Nat × Instr × Nat)), il_64.lookup e.1 = some e.2 := by decide +kernel
theorem li_64_24 : il_64.lookup 24 = some (.putfield 55, 27) := by decide +kernel
theorem li_64_27 : il_64.lookup 27 = some (.return_, 28) := by decide +kernel
theorem bo_65_0_8d5162 : ∀ e ∈ ([(0, .aload_n 1, 1)] : List (Nat × Instr × Nat)), il_65.lookup e.1 = some e.2 := by decide +kernel
theorem li_65_1 : il_65.lookup 1 = some (.getfield 9, 4) := by decide +kernel
theorem bo_65_4_40e659 : ∀ e ∈ ([(4, .iconst 0, 5), (5, .aload_n 0, 6)] : List (Nat × Instr × Nat)), il_65.lookup e.1 = some e.2 := by decide +kernel
theorem li_65_6 : il_65.lookup 6 = some (.getfield 9, 9) := by decide +kernel
theorem bo_65_9_16efa2 : ∀ e ∈ ([(9, .iconst 0, 10), (10, .bipush 16, 12)] : List (Nat × Instr × Nat)), il_65.lookup e.1 = some e.2 := by decide +kernel
theorem li_65_12 : il_65.lookup 12 = some (.invokestatic 22, 15) := by decide +kernel
theorem bo_65_15_be4250 : ∀ e ∈ ([(15, .aload_n 1, 16)] : List (Nat × Instr × Nat)), il_65.lookup e.1 = some e.2 := by decide +kernel
theorem li_65_16 : il_65.lookup 16 = some (.getfield 15, 19) := by decide +kernel
theorem bo_65_19_643a70 : ∀ e ∈ ([(19, .iconst 0, 20), (20, .aload_n 0, 21)] : List (Nat × Instr × Nat)), il_65.lookup e.1 = some e.2 := by decide +kernel
theorem li_65_21 : il_65.lookup 21 = some (.getfield 15, 24) := by decide +kernel
theorem bo_65_24_35ae4e : ∀ e ∈ ([(24, .iconst 0, 25), (25, .bipush 16, 27)] : List (Nat × Instr × Nat)), il_65.lookup e.1 = some e.2 := by decide +kernel
theorem li_65_27 : il_65.lookup 27 = some (.invokestatic 22, 30) := by decide +kernel
theorem bo_65_30_e4fc54 : ∀ e ∈ ([(30, .aload_n 0, 31), (31, .aload_n 1, 32)] : List (Nat × Instr × Nat)), il_65.lookup e.1 = some e.2 := by decide +kernel
theorem li_65_32 : il_65.lookup 32 = some (.getfield 18, 35) := by decide +kernel
theorem li_65_35 : il_65.lookup 35 = some (.putfield 18, 38) := by decide +kernel
theorem li_65_38 : il_65.lookup 38 = some (.return_, 39) := by decide +kernel
theorem bo_66_0_8d5162 : ∀ e ∈ ([(0, .aload_n 0, 1)] : List (Nat × Instr × Nat)), il_66.lookup e.1 = some e.2 := by decide +kernel
theorem li_66_1 : il_66.lookup 1 = some (.getfield 12, 4) := by decide +kernel
theorem li_66_4 : il_66.lookup 4 = some (.invokevirtual 25, 7) := by decide +kernel
theorem bo_66_7_7eef78 : ∀ e ∈ ([(7, .aload_n 0, 8), (8, .iconst 0, 9)] : List (Nat × Instr × Nat)), il_66.lookup e.1 = some e.2 := by decide +kernel
theorem li_66_9 : il_66.lookup 9 = some (.putfield 28, 12) := by decide +kernel
theorem bo_66_12_1089ca : ∀ e ∈ ([(12, .aload_n 0, 13), (13, .iconst 0, 14)] : List (Nat × Instr × Nat)), il_66.lookup e.1 = some e.2 := by decide +kernel
theorem li_66_14 : il_66.lookup 14 = some (.putfield 32, 17) := by decide +kernel
theorem bo_66_17_03196b : ∀ e ∈ ([(17, .aload_n 0, 18), (18, .iconst 0, 19)] : List (Nat × Instr × Nat)), il_66.lookup e.1 = some e.2 := by decide +kernel
theorem li_66_19 : il_66.lookup 19 = some (.putfield 35, 22) := by decide +kernel
theorem bo_66_22_13b32e : ∀ e ∈ ([(22, .aload_n 0, 23), (23, .aload_n 0, 24)] : List (Nat × Instr × Nat)), il_66.lookup e.1 = some e.2 := by decide +kernel
theorem li_66_24 : il_66.lookup 24 = some (.getfield 22, 27) := by decide +kernel
theorem li_66_27 : il_66.lookup 27 = some (.putfield 18, 30) := by decide +kernel
theorem li_66_30 : il_66.lookup 30 = some (.return_, 31) := by decide +kernel
theorem bo_67_41_8598b5 : ∀ e ∈ ([(41, .iinc 3 1, 44), (44, .goto (-23), 47)] : List (Nat × Instr × Nat)), il_67.lookup e.1 = some e.2 := by decide +kernel
theorem bo_67_21_13696e : ∀ e ∈ ([(21, .iload_n 3, 22), (22, .iload_n 2, 23)] : List (Nat × Instr × Nat)), il_67.lookup e.1 = some e.2 := by decide +kernel
theorem li_67_23 : il_67.lookup 23 = some (.if_icmp .ge 24, 26) := by decide +kernel
theorem li_67_47 : il_67.lookup 47 = some (.return_, 48) := by decide +kernel
theorem bo_67_26_539da0 : ∀ e ∈ ([(26, .aload_n 1, 27), (27, .iload_n 3, 28)] : List (Nat × Instr × Nat)), il_67.lookup e.1 = some e.2 := by decide +kernel
theorem li_67_28 : il_67.lookup 28 = some (.aaload, 29) := by decide +kernel
theorem bo_67_29_e011ae : ∀ e ∈ ([(29, .astore 4, 31), (31, .aload 4, 33), (33, .ifnull 8, 36), (36, .aload 4, 38)] : List (Nat × Instr × Nat)), il_67.lookup e.1 = some e.2 := by decide +kernel
theorem li_67_38 : il_67.lookup 38 = some (.invokevirtual 91, 41) := by decide +kernel
theorem bo_67_0_8d5162 : ∀ e ∈ ([(0, .aload_n 0, 1)] : List (Nat × Instr × Nat)), il_67.lookup e.1 = some e.2 := by decide +kernel
theorem li_67_1 : il_67.lookup 1 = some (.getfield 20, 4) := by decide +kernel
theorem bo_67_4_e962e2 : ∀ e ∈ ([(4, .aload_n 0, 5)] : List (Nat × Instr × Nat)), il_67.lookup e.1 = some e.2 := by decide +kernel
theorem li_67_5 : il_67.lookup 5 = some (.getfield 27, 8) := by decide +kernel
theorem li_67_8 : il_67.lookup 8 = some (.invokevirtual 87, 11) := by decide +kernel
theorem bo_67_11_081257 : ∀ e ∈ ([(11, .aload_n 0, 12)] : List (Nat × Instr × Nat)), il_67.lookup e.1 = some e.2 := by decide +kernel
theorem li_67_12 : il_67.lookup 12 = some (.getfield 11, 15) := by decide +kernel
theorem bo_67_15_d45c32 : ∀ e ∈ ([(15, .astore_n 1, 16), (16, .aload_n 1, 17)] : List (Nat × Instr × Nat)), il_67.lookup e.1 = some e.2 := by decide +kernel
theorem li_67_17 : il_67.lookup 17 = some (.arraylength, 18) := by decide +kernel
theorem bo_67_18_16f310 : ∀ e ∈ ([(18, .istore_n 2, 19), (19, .iconst 0, 20), (20, .istore_n 3, 21)] : List (Nat × Instr × Nat)), il_67.lookup e.1 = some e.2 := by decide +kernel
theorem bo_68_43_c2b07f : ∀ e ∈ ([(43, .iinc 3 1, 46), (46, .goto (-23), 49)] : List (Nat × Instr × Nat)), il_68.lookup e.1 = some e.2 := by decide +kernel
theorem bo_68_79_19d3c4 : ∀ e ∈ ([(79, .iinc 3 1, 82), (82, .goto (-23), 85)] : List (Nat × Instr × Nat)), il_68.lookup e.1 = some e.2 := by decide +kernel
theorem bo_68_59_d0b94e : ∀ e ∈ ([(59, .iload_n 3, 60), (60, .iload_n 2, 61)] : List (Nat × Instr × Nat)), il_68.lookup e.1 = some e.2 := by decide +kernel
theorem li_68_61 : il_68.lookup 61 = some (.if_icmp .ge 24, 64) := by decide +kernel
theorem li_68_85 : il_68.lookup 85 = some (.return_, 86) := by decide +kernel
theorem bo_68_64_23d05d : ∀ e ∈ ([(64, .aload_n 1, 65), (65, .iload_n 3, 66)] : List (Nat × Instr × Nat)), il_68.lookup e.1 = some e.2 := by decide +kernel
theorem li_68_66 : il_68.lookup 66 = some (.aaload, 67) := by decide +kernel
theorem bo_68_67_2d0154 : ∀ e ∈ ([(67, .astore 4, 69), (69, .aload 4, 71), (71, .ifnull 8, 74), (74, .aload 4, 76)] : List (Nat × Instr × Nat)), il_68.lookup e.1 = some e.2 := by decide +kernel
theorem li_68_76 : il_68.lookup 76 = some (.invokevirtual 222, 79) := by decide +kernel
theorem bo_68_23_31ad6f : ∀ e ∈ ([(23, .iload_n 3, 24), (24, .iload_n 2, 25)] : List (Nat × Instr × Nat)), il_68.lookup e.1 = some e.2 := by decide +kernel
theorem li_68_25 : il_68.lookup 25 = some (.if_icmp .ge 24, 28) := by decide +kernel
theorem bo_68_49_e052b7 : ∀ e ∈ ([(49, .aload_n 0, 50)] : List (Nat × Instr × Nat)), il_68.lookup e.1 = some e.2 := by decide +kernel
theorem li_68_50 : il_68.lookup 50 = some (.getfield 29, 53) := by decide +kernel
theorem bo_68_53_2770e1 : ∀ e ∈ ([(53, .astore_n 1, 54), (54, .aload_n 1, 55)] : List (Nat × Instr × Nat)), il_68.lookup e.1 = some e.2 := by decide +kernel
theorem li_68_55 : il_68.lookup 55 = some (.arraylength, 56) := by decide +kernel
theorem bo_68_56_308b3f : ∀ e ∈ ([(56, .istore_n 2, 57), (57, .iconst 0, 58), (58, .istore_n 3, 59)] : List (Nat × Instr × Nat)), il_68.lookup e.1 = some e.2 := by decide +kernel
theorem bo_68_28_533662 : ∀ e ∈ ([(28, .aload_n 1, 29), (29, .iload_n 3, 30)] : List (Nat × Instr × Nat)), il_68.lookup e.1 = some e.2 := by decide +kernel
theorem li_68_30 : il_68.lookup 30 = some (.aaload, 31) := by decide +kernel
theorem bo_68_31_3468ce : ∀ e ∈ ([(31, .astore 4, 33), (33, .aload 4, 35), (35, .ifnull 8, 38), (38, .aload 4, 40)] : List (Nat × Instr × Nat)), il_68.lookup e.1 = some e.2 := by decide +kernel
theorem li_68_40 : il_68.lookup 40 = some (.invokevirtual 221, 43) := by decide +kernel
theorem bo_68_0_264884 : ∀ e ∈ ([(0, .aload_n 0, 1), (1, .iconst 0, 2)] : List (Nat × Instr × Nat)), il_68.lookup e.1 = some e.2 := by decide +kernel
theorem li_68_2 : il_68.lookup 2 = some (.putfield 126, 5) := by decide +kernel
theorem bo_68_5_ca77c4 : ∀ e ∈ ([(5, .aload_n 0, 6), (6, .aload_n 0, 7)] : List (Nat × Instr × Nat)), il_68.lookup e.1 = some e.2 := by decide +kernel
theorem li_68_7 : il_68.lookup 7 = some (.getfield 97, 10) := by decide +kernel
theorem li_68_10 : il_68.lookup 10 = some (.putfield 135, 13) := by decide +kernel
theorem bo_68_13_15f019 : ∀ e ∈ ([(13, .aload_n 0, 14)] : List (Nat × Instr × Nat)), il_68.lookup e.1 = some e.2 := by decide +kernel
theorem li_68_14 : il_68.lookup 14 = some (.getfield 35, 17) := by decide +kernel
theorem bo_68_17_03196b : ∀ e ∈ ([(17, .astore_n 1, 18), (18, .aload_n 1, 19)] : List (Nat × Instr × Nat)), il_68.lookup e.1 = some e.2 := by decide +kernel
theorem li_68_19 : il_68.lookup 19 = some (.arraylength, 20) := by decide +kernel
theorem bo_68_20_638673 : ∀ e ∈ ([(20, .istore_n 2, 21), (21, .iconst 0, 22), (22, .istore_n 3, 23)] : List (Nat × Instr × Nat)), il_68.lookup e.1 = some e.2 := by decide +kernel
theorem bo_69_30_c7d85e : ∀ e ∈ ([(30, .iinc 3 1, 33), (33, .goto (-23), 36)] : List (Nat × Instr × Nat)), il_69.lookup e.1 = some e.2 := by decide +kernel
theorem bo_69_10_42a704 : ∀ e ∈ ([(10, .iload_n 3, 11), (11, .iload_n 2, 12)] : List (Nat × Instr × Nat)), il_69.lookup e.1 = some e.2 := by decide +kernel
theorem li_69_12 : il_69.lookup 12 = some (.if_icmp .ge 24, 15) := by decide +kernel
theorem bo_69_36_befed3 : ∀ e ∈ ([(36, .aload_n 0, 37)] : List (Nat × Instr × Nat)), il_69.lookup e.1 = some e.2 := by decide +kernel
theorem li_69_37 : il_69.lookup 37 = some (.getfield 42, 40) := by decide +kernel
theorem li_69_40 : il_69.lookup 40 = some (.invokevirtual 94, 43) := by decide +kernel
theorem bo_69_43_98bd08 : ∀ e ∈ ([(43, .aload_n 0, 44), (44, .iconst 0, 45)] : List (Nat × Instr × Nat)), il_69.lookup e.1 = some e.2 := by decide +kernel
theorem li_69_45 : il_69.lookup 45 = some (.putfield 97, 48) := by decide +kernel
theorem bo_69_48_3a676f : ∀ e ∈ ([(48, .aload_n 0, 49), (49, .iconst 0, 50)] : List (Nat × Instr × Nat)), il_69.lookup e.1 = some e.2 := by decide +kernel
theorem li_69_50 : il_69.lookup 50 = some (.putfield 100, 53) := by decide +kernel
theorem bo_69_53_2770e1 : ∀ e ∈ ([(53, .aload_n 0, 54), (54, .iconst 0, 55)] : List (Nat × Instr × Nat)), il_69.lookup e.1 = some e.2 := by decide +kernel
theorem li_69_55 : il_69.lookup 55 = some (.putfield 103, 58) := by decide +kernel
theorem bo_69_58_6e952f : ∀ e ∈ ([(58, .aload_n 0, 59), (59, .iconst 0, 60)] : List (Nat × Instr × Nat)), il_69.lookup e.1 = some e.2 := by decide +kernel
theorem li_69_60 : il_69.lookup 60 = some (.putfield 106, 63) := by decide +kernel
theorem bo_69_63_e22c52 : ∀ e ∈ ([(63, .aload_n 0, 64)] : List (Nat × Instr × Nat)), il_69.lookup e.1 = some e.2 := by decide +kernel
theorem li_69_64 : il_69.lookup 64 = some (.invokevirtual 110, 67) := by decide +kernel
theorem bo_69_67_d1bdfd : ∀ e ∈ ([(67, .aload_n 0, 68), (68, .iconst 0, 69)] : List (Nat × Instr × Nat)), il_69.lookup e.1 = some e.2 := by decide +kernel
theorem li_69_69 : il_69.lookup 69 = some (.putfield 113, 72) := by decide +kernel
theorem li_69_72 : il_69.lookup 72 = some (.return_, 73) := by decide +kernel
theorem bo_69_15_d45c32 : ∀ e ∈ ([(15, .aload_n 1, 16), (16, .iload_n 3, 17)] : List (Nat × Instr × Nat)), il_69.lookup e.1 = some e.2 := by decide +kernel
theorem li_69_17 : il_69.lookup 17 = some (.aaload, 18) := by decide +kernel
theorem bo_69_18_09e76f : ∀ e ∈ ([(18, .astore 4, 20), (20, .aload 4, 22), (22, .ifnull 8, 25), (25, .aload 4, 27)] : List (Nat × Instr × Nat)), il_69.lookup e.1 = some e.2 := by decide +kernel
theorem li_69_27 : il_69.lookup 27 = some (.invokevirtual 91, 30) := by decide +kernel
theorem bo_69_0_8d5162 : ∀ e ∈ ([(0, .aload_n 0, 1)] : List (Nat × Instr × Nat)), il_69.lookup e.1 = some e.2 := by decide +kernel
theorem li_69_1 : il_69.lookup 1 = some (.getfield 29, 4) := by decide +kernel
theorem bo_69_4_40e659 : ∀ e ∈ ([(4, .astore_n 1, 5), (5, .aload_n 1, 6)] : List (Nat × Instr × Nat)), il_69.lookup e.1 = some e.2 := by decide +kernel
theorem li_69_6 : il_69.lookup 6 = some (.arraylength, 7) := by decide +kernel
theorem bo_69_7_6bece7 : ∀ e ∈ ([(7, .istore_n 2, 8), (8, .iconst 0, 9), (9, .istore_n 3, 10)] : List (Nat × Instr × Nat)), il_69.lookup e.1 = some e.2 := by decide +kernel
theorem bo_70_63_db582c : ∀ e ∈ ([(63, .iinc 2 1, 66), (66, .goto (-56), 69)] : List (Nat × Instr × Nat)), il_70.lookup e.1 = some e.2 := by decide +kernel
theorem bo_70_96_2375ef : ∀ e ∈ ([(96, .aload_n 0, 97)] : List (Nat × Instr × Nat)), il_70.lookup e.1 = some e.2 := by decide +kernel
theorem li_70_97 : il_70.lookup 97 = some (.invokevirtual 88, 100) := by decide +kernel
theorem li_70_100 : il_70.lookup 100 = some (.return_, 101) := by decide +kernel
theorem bo_70_69_1aaecf : ∀ e ∈ ([(69, .aload_n 0, 70), (70, .aload_n 0, 71)] : List (Nat × Instr × Nat)), il_70.lookup e.1 = some e.2 := by decide +kernel
theorem li_70_71 : il_70.lookup 71 = some (.getfield 50, 74) := by decide +kernel
theorem bo_70_74_f61e5a : ∀ e ∈ ([(74, .iconst 1, 75), (75, .iadd, 76)] : List (Nat × Instr × Nat)), il_70.lookup e.1 = some e.2 := by decide +kernel
theorem li_70_76 : il_70.lookup 76 = some (.invokevirtual 54, 79) := by decide +kernel
theorem bo_70_79_3f6050 : ∀ e ∈ ([(79, .astore_n 2, 80), (80, .aload_n 2, 81), (81, .ifnull 15, 84)] : List (Nat × Instr × Nat)), il_70.lookup e.1 = some e.2 := by decide +kernel
theorem bo_70_79_46d332 : ∀ e ∈ ([(79, .astore_n 2, 80), (80, .aload_n 2, 81), (81, .ifnull 15, 84), (84, .aload_n 2, 85), (85, .bipush 8, 87), (87, .iconst 0, 88), (88, .iconst 0, 89), (89, .aload_n 1, 90)] : List (Nat × Instr × Nat)), il_70.lookup e.1 = some e.2 := by decide +kernel
theorem li_70_90 : il_70.lookup 90 = some (.getfield 85, 93) := by decide +kernel
theorem li_70_93 : il_70.lookup 93 = some (.invokevirtual 81, 96) := by decide +kernel
theorem bo_70_10_42a704 : ∀ e ∈ ([(10, .iload_n 2, 11), (11, .aload_n 0, 12)] : List (Nat × Instr × Nat)), il_70.lookup e.1 = some e.2 := by decide +kernel
theorem li_70_12 : il_70.lookup 12 = some (.getfield 50, 15) := by decide +kernel
theorem li_70_15 : il_70.lookup 15 = some (.if_icmp .ge 54, 18) := by decide +kernel
theorem bo_70_18_d268ac : ∀ e ∈ ([(18, .iload_n 2, 19), (19, .iconst 4, 20)] : List (Nat × Instr × Nat)), il_70.lookup e.1 = some e.2 := by decide +kernel
theorem li_70_20 : il_70.lookup 20 = some (.if_icmp .ge 49, 23) := by decide +kernel
theorem bo_70_23_2d99ef : ∀ e ∈ ([(23, .aload_n 0, 24), (24, .iload_n 2, 25), (25, .iconst 1, 26), (26, .iadd, 27)] : List (Nat × Instr × Nat)), il_70.lookup e.1 = some e.2 := by decide +kernel
theorem li_70_27 : il_70.lookup 27 = some (.invokevirtual 54, 30) := by decide +kernel
theorem bo_70_30_8434fa : ∀ e ∈ ([(30, .astore_n 3, 31), (31, .aload_n 3, 32), (32, .ifnull 31, 35)] : List (Nat × Instr × Nat)), il_70.lookup e.1 = some e.2 := by decide +kernel
theorem bo_70_30_d32a15 : ∀ e ∈ ([(30, .astore_n 3, 31), (31, .aload_n 3, 32), (32, .ifnull 31, 35), (35, .aload_n 3, 36), (36, .aload_n 1, 37)] : List (Nat × Instr × Nat)), il_70.lookup e.1 = some e.2 := by decide +kernel
theorem li_70_37 : il_70.lookup 37 = some (.getfield 68, 40) := by decide +kernel
theorem bo_70_40_d0cc5b : ∀ e ∈ ([(40, .iload_n 2, 41)] : List (Nat × Instr × Nat)), il_70.lookup e.1 = some e.2 := by decide +kernel
theorem li_70_41 : il_70.lookup 41 = some (.iaload, 42) := by decide +kernel
theorem bo_70_42_b358e7 : ∀ e ∈ ([(42, .aload_n 1, 43)] : List (Nat × Instr × Nat)), il_70.lookup e.1 = some e.2 := by decide +kernel
theorem li_70_43 : il_70.lookup 43 = some (.getfield 72, 46) := by decide +kernel
theorem bo_70_46_4b02d4 : ∀ e ∈ ([(46, .iload_n 2, 47)] : List (Nat × Instr × Nat)), il_70.lookup e.1 = some e.2 := by decide +kernel
theorem li_70_47 : il_70.lookup 47 = some (.iaload, 48) := by decide +kernel
theorem bo_70_48_04c55a : ∀ e ∈ ([(48, .aload_n 1, 49)] : List (Nat × Instr × Nat)), il_70.lookup e.1 = some e.2 := by decide +kernel
theorem li_70_49 : il_70.lookup 49 = some (.getfield 75, 52) := by decide +kernel
theorem bo_70_52_118d3f : ∀ e ∈ ([(52, .iload_n 2, 53)] : List (Nat × Instr × Nat)), il_70.lookup e.1 = some e.2 := by decide +kernel
theorem li_70_53 : il_70.lookup 53 = some (.iaload, 54) := by decide +kernel
theorem bo_70_54_02ca38 : ∀ e ∈ ([(54, .aload_n 1, 55)] : List (Nat × Instr × Nat)), il_70.lookup e.1 = some e.2 := by decide +kernel
theorem li_70_55 : il_70.lookup 55 = some (.getfield 78, 58) := by decide +kernel
theorem bo_70_58_df393a : ∀ e ∈ ([(58, .iload_n 2, 59)] : List (Nat × Instr × Nat)), il_70.lookup e.1 = some e.2 := by decide +kernel
theorem li_70_59 : il_70.lookup 59 = some (.iaload, 60) := by decide +kernel
theorem li_70_60 : il_70.lookup 60 = some (.invokevirtual 81, 63) := by decide +kernel
theorem bo_70_0_264884 : ∀ e ∈ ([(0, .aload_n 0, 1), (1, .aload_n 1, 2)] : List (Nat × Instr × Nat)), il_70.lookup e.1 = some e.2 := by decide +kernel
theorem li_70_2 : il_70.lookup 2 = some (.getfield 65, 5) := by decide +kernel
theorem li_70_5 : il_70.lookup 5 = some (.putfield 50, 8) := by decide +kernel
theorem bo_70_8_0adad6 : ∀ e ∈ ([(8, .iconst 0, 9), (9, .istore_n 2, 10)] : List (Nat × Instr × Nat)), il_70.lookup e.1 = some e.2 := by decide +kernel
theorem bo_71_40_9363ee : ∀ e ∈ ([(40, .iinc 1 1, 43), (43, .goto (-36), 46)] : List (Nat × Instr × Nat)), il_71.lookup e.1 = some e.2 := by decide +kernel
theorem bo_71_7_7eef78 : ∀ e ∈ ([(7, .iload_n 1, 8), (8, .aload_n 0, 9)] : List (Nat × Instr × Nat)), il_71.lookup e.1 = some e.2 := by decide +kernel
theorem li_71_9 : il_71.lookup 9 = some (.getfield 9, 12) := by decide +kernel
theorem li_71_12 : il_71.lookup 12 = some (.getfield 19, 15) := by decide +kernel
theorem bo_71_15_d45c32 : ∀ e ∈ ([(15, .iconst 1, 16), (16, .iadd, 17)] : List (Nat × Instr × Nat)), il_71.lookup e.1 = some e.2 := by decide +kernel
theorem li_71_17 : il_71.lookup 17 = some (.if_icmp .gt 29, 20) := by decide +kernel
theorem li_71_46 : il_71.lookup 46 = some (.return_, 47) := by decide +kernel
theorem bo_71_20_baa9a0 : ∀ e ∈ ([(20, .aload_n 0, 21)] : List (Nat × Instr × Nat)), il_71.lookup e.1 = some e.2 := by decide +kernel
theorem li_71_21 : il_71.lookup 21 = some (.getfield 9, 24) := by decide +kernel
theorem bo_71_24_99aa1d : ∀ e ∈ ([(24, .iload_n 1, 25)] : List (Nat × Instr × Nat)), il_71.lookup e.1 = some e.2 := by decide +kernel
theorem li_71_25 : il_71.lookup 25 = some (.invokevirtual 24, 28) := by decide +kernel
theorem bo_71_28_6102be : ∀ e ∈ ([(28, .astore_n 2, 29), (29, .aload_n 2, 30), (30, .ifnull 10, 33)] : List (Nat × Instr × Nat)), il_71.lookup e.1 = some e.2 := by decide +kernel
theorem bo_71_28_95d3ba : ∀ e ∈ ([(28, .astore_n 2, 29), (29, .aload_n 2, 30), (30, .ifnull 10, 33), (33, .aload_n 2, 34)] : List (Nat × Instr × Nat)), il_71.lookup e.1 = some e.2 := by decide +kernel
theorem li_71_34 : il_71.lookup 34 = some (.getfield 28, 37) := by decide +kernel
theorem li_71_37 : il_71.lookup 37 = some (.invokevirtual 34, 40) := by decide +kernel
theorem bo_71_0_264884 : ∀ e ∈ ([(0, .aload_n 0, 1), (1, .iconst 0, 2)] : List (Nat × Instr × Nat)), il_71.lookup e.1 = some e.2 := by decide +kernel
theorem li_71_2 : il_71.lookup 2 = some (.putfield 15, 5) := by decide +kernel
theorem bo_71_5_ca77c4 : ∀ e ∈ ([(5, .iconst 0, 6), (6, .istore_n 1, 7)] : List (Nat × Instr × Nat)), il_71.lookup e.1 = some e.2 := by decide +kernel
theorem bo_72_0_8d5162 : ∀ e ∈ ([(0, .aload_n 0, 1)] : List (Nat × Instr × Nat)), il_72.lookup e.1 = some e.2 := by decide +kernel
theorem li_72_1 : il_72.lookup 1 = some (.getfield 24, 4) := by decide +kernel
theorem li_72_4 : il_72.lookup 4 = some (.invokevirtual 61, 7) := by decide +kernel
theorem bo_72_7_7eef78 : ∀ e ∈ ([(7, .istore_n 1, 8), (8, .aload_n 0, 9)] : List (Nat × Instr × Nat)), il_72.lookup e.1 = some e.2 := by decide +kernel
theorem li_72_9 : il_72.lookup 9 = some (.getfield 10, 12) := by decide +kernel
theorem bo_72_12_d0d0c9 : ∀ e ∈ ([(12, .iconst 0, 13)] : List (Nat × Instr × Nat)), il_72.lookup e.1 = some e.2 := by decide +kernel
theorem li_72_13 : il_72.lookup 13 = some (.invokevirtual 65, 16) := by decide +kernel
theorem bo_72_16_862b1a : ∀ e ∈ ([(16, .iload_n 1, 17)] : List (Nat × Instr × Nat)), il_72.lookup e.1 = some e.2 := by decide +kernel
theorem li_72_17 : il_72.lookup 17 = some (.ifCond .ne 15, 20) := by decide +kernel
theorem bo_72_32_191034 : ∀ e ∈ ([(32, .aload_n 0, 33)] : List (Nat × Instr × Nat)), il_72.lookup e.1 = some e.2 := by decide +kernel
theorem li_72_33 : il_72.lookup 33 = some (.getfield 31, 36) := by decide +kernel
theorem bo_72_36_befed3 : ∀ e ∈ ([(36, .aload_n 0, 37)] : List (Nat × Instr × Nat)), il_72.lookup e.1 = some e.2 := by decide +kernel
theorem li_72_37 : il_72.lookup 37 = some (.getfield 24, 40) := by decide +kernel
theorem li_72_40 : il_72.lookup 40 = some (.invokevirtual 73, 43) := by decide +kernel
theorem bo_72_43_d85b47 : ∀ e ∈ ([(43, .aload_n 0, 44)] : List (Nat × Instr × Nat)), il_72.lookup e.1 = some e.2 := by decide +kernel
theorem li_72_44 : il_72.lookup 44 = some (.getfield 40, 47) := by decide +kernel
theorem li_72_47 : il_72.lookup 47 = some (.invokevirtual 77, 50) := by decide +kernel
theorem bo_72_50_8a8783 : ∀ e ∈ ([(50, .aload_n 0, 51)] : List (Nat × Instr × Nat)), il_72.lookup e.1 = some e.2 := by decide +kernel
theorem li_72_51 : il_72.lookup 51 = some (.getfield 31, 54) := by decide +kernel
theorem li_72_54 : il_72.lookup 54 = some (.getfield 80, 57) := by decide +kernel
theorem li_72_57 : il_72.lookup 57 = some (.ireturn, 58) := by decide +kernel
theorem bo_72_20_57b5cd : ∀ e ∈ ([(20, .sipush (-2000), 23), (23, .aload_n 0, 24)] : List (Nat × Instr × Nat)), il_72.lookup e.1 = some e.2 := by decide +kernel
theorem li_72_24 : il_72.lookup 24 = some (.getfield 24, 27) := by decide +kernel
theorem li_72_27 : il_72.lookup 27 = some (.getfield 69, 30) := by decide +kernel
theorem bo_72_30_0b4e4a : ∀ e ∈ ([(30, .isub, 31)] : List (Nat × Instr × Nat)), il_72.lookup e.1 = some e.2 := by decide +kernel
theorem li_72_31 : il_72.lookup 31 = some (.ireturn, 32) := by decide +kernel
theorem bo_73_0_8d5162 : ∀ e ∈ ([(0, .aload_n 0, 1)] : List (Nat × Instr × Nat)), il_73.lookup e.1 = some e.2 := by decide +kernel
theorem li_73_1 : il_73.lookup 1 = some (.getfield 212, 4) := by decide +kernel
theorem bo_73_4_e962e2 : ∀ e ∈ ([(4, .aload_n 0, 5)] : List (Nat × Instr × Nat)), il_73.lookup e.1 = some e.2 := by decide +kernel
theorem li_73_5 : il_73.lookup 5 = some (.getfield 208, 8) := by decide +kernel
theorem li_73_8 : il_73.lookup 8 = some (.if_icmp .ge 15, 11) := by decide +kernel
theorem bo_73_23_b37e12 : ∀ e ∈ ([(23, .iconst (-1), 24)] : List (Nat × Instr × Nat)), il_73.lookup e.1 = some e.2 := by decide +kernel
theorem li_73_24 : il_73.lookup 24 = some (.ireturn, 25) := by decide +kernel
theorem bo_73_11_081257 : ∀ e ∈ ([(11, .aload_n 0, 12)] : List (Nat × Instr × Nat)), il_73.lookup e.1 = some e.2 := by decide +kernel
theorem li_73_12 : il_73.lookup 12 = some (.getfield 9, 15) := by decide +kernel
theorem bo_73_15_be4250 : ∀ e ∈ ([(15, .aload_n 0, 16)] : List (Nat × Instr × Nat)), il_73.lookup e.1 = some e.2 := by decide +kernel
theorem li_73_16 : il_73.lookup 16 = some (.getfield 212, 19) := by decide +kernel
theorem li_73_19 : il_73.lookup 19 = some (.iaload, 20) := by decide +kernel
theorem bo_73_20_baa9a0 : ∀ e ∈ ([(20, .goto 4, 23)] : List (Nat × Instr × Nat)), il_73.lookup e.1 = some e.2 := by decide +kernel
theorem bo_74_0_264884 : ∀ e ∈ ([(0, .iload_n 0, 1), (1, .bipush 109, 3)] : List (Nat × Instr × Nat)), il_74.lookup e.1 = some e.2 := by decide +kernel
theorem li_74_3 : il_74.lookup 3 = some (.if_icmp .ne 7, 6) := by decide +kernel
theorem bo_74_10_42a704 : ∀ e ∈ ([(10, .iload_n 0, 11), (11, .bipush 102, 13)] : List (Nat × Instr × Nat)), il_74.lookup e.1 = some e.2 := by decide +kernel
theorem li_74_13 : il_74.lookup 13 = some (.if_icmp .ne 7, 16) := by decide +kernel
theorem bo_74_20_aa2fda : ∀ e ∈ ([(20, .iload_n 0, 21), (21, .bipush 107, 23)] : List (Nat × Instr × Nat)), il_74.lookup e.1 = some e.2 := by decide +kernel
theorem li_74_23 : il_74.lookup 23 = some (.if_icmp .ne 7, 26) := by decide +kernel
theorem bo_74_30_e4fc54 : ∀ e ∈ ([(30, .iload_n 0, 31), (31, .bipush 99, 33)] : List (Nat × Instr × Nat)), il_74.lookup e.1 = some e.2 := by decide +kernel
theorem li_74_33 : il_74.lookup 33 = some (.if_icmp .ne 7, 36) := by decide +kernel
theorem bo_74_40_20557d : ∀ e ∈ ([(40, .iload_n 0, 41), (41, .bipush 115, 43)] : List (Nat × Instr × Nat)), il_74.lookup e.1 = some e.2 := by decide +kernel
theorem li_74_43 : il_74.lookup 43 = some (.if_icmp .ne 7, 46) := by decide +kernel
theorem bo_74_50_b22ebb : ∀ e ∈ ([(50, .iload_n 0, 51), (51, .bipush 100, 53)] : List (Nat × Instr × Nat)), il_74.lookup e.1 = some e.2 := by decide +kernel
theorem li_74_53 : il_74.lookup 53 = some (.if_icmp .ne 7, 56) := by decide +kernel
theorem bo_74_60_3e1655 : ∀ e ∈ ([(60, .iload_n 0, 61), (61, .bipush 114, 63)] : List (Nat × Instr × Nat)), il_74.lookup e.1 = some e.2 := by decide +kernel
theorem li_74_63 : il_74.lookup 63 = some (.if_icmp .ne 8, 66) := by decide +kernel
theorem bo_74_71_2ba9bf : ∀ e ∈ ([(71, .iconst (-1), 72)] : List (Nat × Instr × Nat)), il_74.lookup e.1 = some e.2 := by decide +kernel
theorem li_74_72 : il_74.lookup 72 = some (.ireturn, 73) := by decide +kernel
theorem bo_74_66_17f18e : ∀ e ∈ ([(66, .bipush 6, 68), (68, .goto 4, 71)] : List (Nat × Instr × Nat)), il_74.lookup e.1 = some e.2 := by decide +kernel
theorem bo_74_56_ba4435 : ∀ e ∈ ([(56, .iconst 5, 57), (57, .goto 15, 60)] : List (Nat × Instr × Nat)), il_74.lookup e.1 = some e.2 := by decide +kernel
theorem bo_74_46_341f4e : ∀ e ∈ ([(46, .iconst 4, 47), (47, .goto 25, 50)] : List (Nat × Instr × Nat)), il_74.lookup e.1 = some e.2 := by decide +kernel
theorem bo_74_36_285c9e : ∀ e ∈ ([(36, .iconst 3, 37), (37, .goto 35, 40)] : List (Nat × Instr × Nat)), il_74.lookup e.1 = some e.2 := by decide +kernel
theorem bo_74_26_539da0 : ∀ e ∈ ([(26, .iconst 2, 27), (27, .goto 45, 30)] : List (Nat × Instr × Nat)), il_74.lookup e.1 = some e.2 := by decide +kernel
theorem bo_74_16_f4f9fa : ∀ e ∈ ([(16, .iconst 1, 17), (17, .goto 55, 20)] : List (Nat × Instr × Nat)), il_74.lookup e.1 = some e.2 := by decide +kernel
theorem bo_74_6_e618ed : ∀ e ∈ ([(6, .iconst 0, 7), (7, .goto 65, 10)] : List (Nat × Instr × Nat)), il_74.lookup e.1 = some e.2 := by decide +kernel
theorem bo_75_39_4dcc25 : ∀ e ∈ ([(39, .iadd, 40)] : List (Nat × Instr × Nat)), il_75.lookup e.1 = some e.2 := by decide +kernel
theorem li_75_40 : il_75.lookup 40 = some (.putfield 212, 43) := by decide +kernel
theorem li_75_43 : il_75.lookup 43 = some (.return_, 44) := by decide +kernel
theorem bo_75_18_2b31d8 : ∀ e ∈ ([(18, .ior, 19)] : List (Nat × Instr × Nat)), il_75.lookup e.1 = some e.2 := by decide +kernel
theorem li_75_19 : il_75.lookup 19 = some (.putfield 215, 22) := by decide +kernel
theorem bo_75_22_13b32e : ∀ e ∈ ([(22, .aload_n 0, 23), (23, .dup, 24)] : List (Nat × Instr × Nat)), il_75.lookup e.1 = some e.2 := by decide +kernel
theorem li_75_24 : il_75.lookup 24 = some (.getfield 212, 27) := by decide +kernel
theorem bo_75_27_58fada : ∀ e ∈ ([(27, .aload_n 0, 28)] : List (Nat × Instr × Nat)), il_75.lookup e.1 = some e.2 := by decide +kernel
theorem li_75_28 : il_75.lookup 28 = some (.getfield 215, 31) := by decide +kernel
theorem li_75_31 : il_75.lookup 31 = some (.ifCond .eq 7, 34) := by decide +kernel
theorem bo_75_38_c8c763 : ∀ e ∈ ([(38, .iconst 1, 39)] : List (Nat × Instr × Nat)), il_75.lookup e.1 = some e.2 := by decide +kernel
theorem bo_75_34_812988 : ∀ e ∈ ([(34, .iconst 0, 35), (35, .goto 4, 38)] : List (Nat × Instr × Nat)), il_75.lookup e.1 = some e.2 := by decide +kernel
theorem bo_75_0_264884 : ∀ e ∈ ([(0, .aload_n 0, 1), (1, .dup, 2)] : List (Nat × Instr × Nat)), il_75.lookup e.1 = some e.2 := by decide +kernel
theorem li_75_2 : il_75.lookup 2 = some (.getfield 215, 5) := by decide +kernel
theorem bo_75_5_7b98d2 : ∀ e ∈ ([(5, .aload_n 0, 6)] : List (Nat × Instr × Nat)), il_75.lookup e.1 = some e.2 := by decide +kernel
theorem li_75_6 : il_75.lookup 6 = some (.invokevirtual 219, 9) := by decide +kernel
theorem bo_75_9_afbef6 : ∀ e ∈ ([(9, .iload_n 1, 10)] : List (Nat × Instr × Nat)), il_75.lookup e.1 = some e.2 := by decide +kernel
theorem li_75_10 : il_75.lookup 10 = some (.if_icmp .eq 7, 13) := by decide +kernel
theorem bo_75_17_509256 : ∀ e ∈ ([(17, .iconst 0, 18)] : List (Nat × Instr × Nat)), il_75.lookup e.1 = some e.2 := by decide +kernel
theorem bo_75_13_1f05a9 : ∀ e ∈ ([(13, .iconst 1, 14), (14, .goto 4, 17)] : List (Nat × Instr × Nat)), il_75.lookup e.1 = some e.2 := by decide +kernel
theorem bo_76_162_7ec365 : ∀ e ∈ ([(162, .ior, 163)] : List (Nat × Instr × Nat)), il_76.lookup e.1 = some e.2 := by decide +kernel
theorem li_76_163 : il_76.lookup 163 = some (.putfield 215, 166) := by decide +kernel
theorem bo_76_166_78cd3a : ∀ e ∈ ([(166, .iload 4, 168)] : List (Nat × Instr × Nat)), il_76.lookup e.1 = some e.2 := by decide +kernel
theorem li_76_168 : il_76.lookup 168 = some (.ireturn, 169) := by decide +kernel
theorem bo_76_140_4942c4 : ∀ e ∈ ([(140, .istore 4, 142), (142, .aload_n 0, 143), (143, .dup, 144)] : List (Nat × Instr × Nat)), il_76.lookup e.1 = some e.2 := by decide +kernel
theorem li_76_144 : il_76.lookup 144 = some (.getfield 215, 147) := by decide +kernel
theorem bo_76_147_4d9f19 : ∀ e ∈ ([(147, .iload 4, 149), (149, .iload_n 1, 150), (150, .iload_n 2, 151)] : List (Nat × Instr × Nat)), il_76.lookup e.1 = some e.2 := by decide +kernel
theorem li_76_151 : il_76.lookup 151 = some (.invokestatic 203, 154) := by decide +kernel
theorem li_76_154 : il_76.lookup 154 = some (.ifCond .ne 7, 157) := by decide +kernel
theorem bo_76_161_f5f45a : ∀ e ∈ ([(161, .iconst 0, 162)] : List (Nat × Instr × Nat)), il_76.lookup e.1 = some e.2 := by decide +kernel
theorem bo_76_157_a33bc5 : ∀ e ∈ ([(157, .iconst 1, 158), (158, .goto 4, 161)] : List (Nat × Instr × Nat)), il_76.lookup e.1 = some e.2 := by decide +kernel
theorem bo_76_128_5d5c9c : ∀ e ∈ ([(128, .iload_n 3, 129)] : List (Nat × Instr × Nat)), il_76.lookup e.1 = some e.2 := by decide +kernel
theorem li_76_129 : il_76.lookup 129 = some (.ifCond .eq 9, 132) := by decide +kernel
theorem bo_76_138_dc044b : ∀ e ∈ ([(138, .iload 4, 140)] : List (Nat × Instr × Nat)), il_76.lookup e.1 = some e.2 := by decide +kernel
theorem bo_76_132_967124 : ∀ e ∈ ([(132, .iload 4, 134), (134, .ineg, 135), (135, .goto 5, 138)] : List (Nat × Instr × Nat)), il_76.lookup e.1 = some e.2 := by decide +kernel
theorem bo_76_57_a9d9a3 : ∀ e ∈ ([(57, .ior, 58)] : List (Nat × Instr × Nat)), il_76.lookup e.1 = some e.2 := by decide +kernel
theorem li_76_58 : il_76.lookup 58 = some (.putfield 215, 61) := by decide +kernel
theorem bo_76_61_769b30 : ∀ e ∈ ([(61, .aload_n 0, 62)] : List (Nat × Instr × Nat)), il_76.lookup e.1 = some e.2 := by decide +kernel
theorem li_76_62 : il_76.lookup 62 = some (.getfield 215, 65) := by decide +kernel
theorem li_76_65 : il_76.lookup 65 = some (.ifCond .eq 5, 68) := by decide +kernel
theorem bo_76_70_a81b5d : ∀ e ∈ ([(70, .aload_n 0, 71)] : List (Nat × Instr × Nat)), il_76.lookup e.1 = some e.2 := by decide +kernel
theorem li_76_71 : il_76.lookup 71 = some (.invokevirtual 219, 74) := by decide +kernel
theorem bo_76_74_37337f : ∀ e ∈ ([(74, .bipush 48, 76), (76, .isub, 77), (77, .istore 4, 79), (79, .aload_n 0, 80), (80, .dup, 81)] : List (Nat × Instr × Nat)), il_76.lookup e.1 = some e.2 := by decide +kernel
theorem li_76_81 : il_76.lookup 81 = some (.getfield 212, 84) := by decide +kernel
theorem bo_76_84_fc726c : ∀ e ∈ ([(84, .iconst 1, 85), (85, .iadd, 86)] : List (Nat × Instr × Nat)), il_76.lookup e.1 = some e.2 := by decide +kernel
theorem li_76_86 : il_76.lookup 86 = some (.putfield 212, 89) := by decide +kernel
theorem bo_76_89_bbca9b : ∀ e ∈ ([(89, .aload_n 0, 90)] : List (Nat × Instr × Nat)), il_76.lookup e.1 = some e.2 := by decide +kernel
theorem li_76_90 : il_76.lookup 90 = some (.invokevirtual 219, 93) := by decide +kernel
theorem bo_76_93_f2137b : ∀ e ∈ ([(93, .bipush 48, 95), (95, .bipush 57, 97)] : List (Nat × Instr × Nat)), il_76.lookup e.1 = some e.2 := by decide +kernel
theorem li_76_97 : il_76.lookup 97 = some (.invokestatic 203, 100) := by decide +kernel
theorem li_76_100 : il_76.lookup 100 = some (.ifCond .eq 28, 103) := by decide +kernel
theorem bo_76_103_bc4ef0 : ∀ e ∈ ([(103, .bipush 10, 105), (105, .iload 4, 107), (107, .imul, 108), (108, .aload_n 0, 109)] : List (Nat × Instr × Nat)), il_76.lookup e.1 = some e.2 := by decide +kernel
theorem li_76_109 : il_76.lookup 109 = some (.invokevirtual 219, 112) := by decide +kernel
theorem bo_76_112_ce4ace : ∀ e ∈ ([(112, .iadd, 113), (113, .bipush 48, 115), (115, .isub, 116), (116, .istore 4, 118), (118, .aload_n 0, 119), (119, .dup, 120)] : List (Nat × Instr × Nat)), il_76.lookup e.1 = some e.2 := by decide +kernel
theorem li_76_120 : il_76.lookup 120 = some (.getfield 212, 123) := by decide +kernel
theorem bo_76_123_30aefa : ∀ e ∈ ([(123, .iconst 1, 124), (124, .iadd, 125)] : List (Nat × Instr × Nat)), il_76.lookup e.1 = some e.2 := by decide +kernel
theorem li_76_125 : il_76.lookup 125 = some (.putfield 212, 128) := by decide +kernel
theorem bo_76_68_7584e0 : ∀ e ∈ ([(68, .iconst 0, 69)] : List (Nat × Instr × Nat)), il_76.lookup e.1 = some e.2 := by decide +kernel
theorem li_76_69 : il_76.lookup 69 = some (.ireturn, 70) := by decide +kernel
theorem bo_76_29_2d7a5f : ∀ e ∈ ([(29, .iadd, 30)] : List (Nat × Instr × Nat)), il_76.lookup e.1 = some e.2 := by decide +kernel
theorem li_76_30 : il_76.lookup 30 = some (.putfield 212, 33) := by decide +kernel
theorem bo_76_33_9ed66c : ∀ e ∈ ([(33, .aload_n 0, 34), (34, .dup, 35)] : List (Nat × Instr × Nat)), il_76.lookup e.1 = some e.2 := by decide +kernel
theorem li_76_35 : il_76.lookup 35 = some (.getfield 215, 38) := by decide +kernel
theorem bo_76_38_c8c763 : ∀ e ∈ ([(38, .aload_n 0, 39)] : List (Nat × Instr × Nat)), il_76.lookup e.1 = some e.2 := by decide +kernel
theorem li_76_39 : il_76.lookup 39 = some (.invokevirtual 219, 42) := by decide +kernel
theorem bo_76_42_9a2b64 : ∀ e ∈ ([(42, .bipush 48, 44), (44, .bipush 57, 46)] : List (Nat × Instr × Nat)), il_76.lookup e.1 = some e.2 := by decide +kernel
theorem li_76_46 : il_76.lookup 46 = some (.invokestatic 203, 49) := by decide +kernel
theorem li_76_49 : il_76.lookup 49 = some (.ifCond .ne 7, 52) := by decide +kernel
theorem bo_76_56_350148 : ∀ e ∈ ([(56, .iconst 0, 57)] : List (Nat × Instr × Nat)), il_76.lookup e.1 = some e.2 := by decide +kernel
theorem bo_76_52_9f6391 : ∀ e ∈ ([(52, .iconst 1, 53), (53, .goto 4, 56)] : List (Nat × Instr × Nat)), il_76.lookup e.1 = some e.2 := by decide +kernel
theorem bo_76_14_7ac8d1 : ∀ e ∈ ([(14, .istore_n 3, 15), (15, .aload_n 0, 16), (16, .dup, 17)] : List (Nat × Instr × Nat)), il_76.lookup e.1 = some e.2 := by decide +kernel
theorem li_76_17 : il_76.lookup 17 = some (.getfield 212, 20) := by decide +kernel
theorem bo_76_20_baa9a0 : ∀ e ∈ ([(20, .iload_n 3, 21)] : List (Nat × Instr × Nat)), il_76.lookup e.1 = some e.2 := by decide +kernel
theorem li_76_21 : il_76.lookup 21 = some (.ifCond .eq 7, 24) := by decide +kernel
theorem bo_76_28_f39cd0 : ∀ e ∈ ([(28, .iconst 0, 29)] : List (Nat × Instr × Nat)), il_76.lookup e.1 = some e.2 := by decide +kernel
theorem bo_76_24_35ae4e : ∀ e ∈ ([(24, .iconst 1, 25), (25, .goto 4, 28)] : List (Nat × Instr × Nat)), il_76.lookup e.1 = some e.2 := by decide +kernel
theorem bo_76_0_8d5162 : ∀ e ∈ ([(0, .aload_n 0, 1)] : List (Nat × Instr × Nat)), il_76.lookup e.1 = some e.2 := by decide +kernel
theorem li_76_1 : il_76.lookup 1 = some (.invokevirtual 219, 4) := by decide +kernel
theorem bo_76_4_e962e2 : ∀ e ∈ ([(4, .bipush 45, 6)] : List (Nat × Instr × Nat)), il_76.lookup e.1 = some e.2 := by decide +kernel
theorem li_76_6 : il_76.lookup 6 = some (.if_icmp .ne 7, 9) := by decide +kernel
theorem bo_76_13_15f019 : ∀ e ∈ ([(13, .iconst 0, 14)] : List (Nat × Instr × Nat)), il_76.lookup e.1 = some e.2 := by decide +kernel
theorem bo_76_9_16efa2 : ∀ e ∈ ([(9, .iconst 1, 10), (10, .goto 4, 13)] : List (Nat × Instr × Nat)), il_76.lookup e.1 = some e.2 := by decide +kernel
theorem bo_77_48_04c55a : ∀ e ∈ ([(48, .iadd, 49)] : List (Nat × Instr × Nat)), il_77.lookup e.1 = some e.2 := by decide +kernel
theorem li_77_49 : il_77.lookup 49 = some (.putfield 212, 52) := by decide +kernel
theorem bo_77_52_118d3f : ∀ e ∈ ([(52, .iload_n 1, 53)] : List (Nat × Instr × Nat)), il_77.lookup e.1 = some e.2 := by decide +kernel
theorem li_77_53 : il_77.lookup 53 = some (.ireturn, 54) := by decide +kernel
theorem bo_77_27_58fada : ∀ e ∈ ([(27, .ior, 28)] : List (Nat × Instr × Nat)), il_77.lookup e.1 = some e.2 := by decide +kernel
theorem li_77_28 : il_77.lookup 28 = some (.putfield 215, 31) := by decide +kernel
theorem bo_77_31_f6932f : ∀ e ∈ ([(31, .aload_n 0, 32), (32, .dup, 33)] : List (Nat × Instr × Nat)), il_77.lookup e.1 = some e.2 := by decide +kernel
theorem li_77_33 : il_77.lookup 33 = some (.getfield 212, 36) := by decide +kernel
theorem bo_77_36_befed3 : ∀ e ∈ ([(36, .aload_n 0, 37)] : List (Nat × Instr × Nat)), il_77.lookup e.1 = some e.2 := by decide +kernel
theorem li_77_37 : il_77.lookup 37 = some (.getfield 215, 40) := by decide +kernel
theorem li_77_40 : il_77.lookup 40 = some (.ifCond .eq 7, 43) := by decide +kernel
theorem bo_77_47_d7fa8e : ∀ e ∈ ([(47, .iconst 1, 48)] : List (Nat × Instr × Nat)), il_77.lookup e.1 = some e.2 := by decide +kernel
theorem bo_77_43_98bd08 : ∀ e ∈ ([(43, .iconst 0, 44), (44, .goto 4, 47)] : List (Nat × Instr × Nat)), il_77.lookup e.1 = some e.2 := by decide +kernel
theorem bo_77_0_8d5162 : ∀ e ∈ ([(0, .aload_n 0, 1)] : List (Nat × Instr × Nat)), il_77.lookup e.1 = some e.2 := by decide +kernel
theorem li_77_1 : il_77.lookup 1 = some (.invokevirtual 219, 4) := by decide +kernel
theorem bo_77_4_e9058f : ∀ e ∈ ([(4, .bipush 48, 6), (6, .isub, 7), (7, .istore_n 1, 8), (8, .aload_n 0, 9), (9, .dup, 10)] : List (Nat × Instr × Nat)), il_77.lookup e.1 = some e.2 := by decide +kernel
theorem li_77_10 : il_77.lookup 10 = some (.getfield 215, 13) := by decide +kernel
theorem bo_77_13_ac7d50 : ∀ e ∈ ([(13, .iload_n 1, 14), (14, .iconst 1, 15), (15, .iconst 3, 16)] : List (Nat × Instr × Nat)), il_77.lookup e.1 = some e.2 := by decide +kernel
theorem li_77_16 : il_77.lookup 16 = some (.invokestatic 203, 19) := by decide +kernel
theorem li_77_19 : il_77.lookup 19 = some (.ifCond .ne 7, 22) := by decide +kernel
theorem bo_77_26_bd3b31 : ∀ e ∈ ([(26, .iconst 0, 27)] : List (Nat × Instr × Nat)), il_77.lookup e.1 = some e.2 := by decide +kernel
theorem bo_77_22_13b32e : ∀ e ∈ ([(22, .iconst 1, 23), (23, .goto 4, 26)] : List (Nat × Instr × Nat)), il_77.lookup e.1 = some e.2 := by decide +kernel
theorem bo_78_211_fe9fe9 : ∀ e ∈ ([(211, .aload_n 0, 212)] : List (Nat × Instr × Nat)), il_78.lookup e.1 = some e.2 := by decide +kernel
theorem li_78_212 : il_78.lookup 212 = some (.getfield 215, 215) := by decide +kernel
theorem li_78_215 : il_78.lookup 215 = some (.ifCond .ne 27, 218) := by decide +kernel
theorem li_78_242 : il_78.lookup 242 = some (.return_, 243) := by decide +kernel
theorem bo_78_218_eb43dd : ∀ e ∈ ([(218, .aload_n 0, 219)] : List (Nat × Instr × Nat)), il_78.lookup e.1 = some e.2 := by decide +kernel
theorem li_78_219 : il_78.lookup 219 = some (.invokevirtual 219, 222) := by decide +kernel
theorem bo_78_222_8fbd04 : ∀ e ∈ ([(222, .bipush 48, 224), (224, .bipush 57, 226)] : List (Nat × Instr × Nat)), il_78.lookup e.1 = some e.2 := by decide +kernel
theorem li_78_226 : il_78.lookup 226 = some (.invokestatic 203, 229) := by decide +kernel
theorem li_78_229 : il_78.lookup 229 = some (.ifCond .eq 13, 232) := by decide +kernel
theorem bo_78_232_d77f52 : ∀ e ∈ ([(232, .aload_n 0, 233)] : List (Nat × Instr × Nat)), il_78.lookup e.1 = some e.2 := by decide +kernel
theorem li_78_233 : il_78.lookup 233 = some (.getfield 160, 236) := by decide +kernel
theorem bo_78_236_e7c6f5 : ∀ e ∈ ([(236, .iload_n 1, 237), (237, .aload_n 0, 238)] : List (Nat × Instr × Nat)), il_78.lookup e.1 = some e.2 := by decide +kernel
theorem li_78_238 : il_78.lookup 238 = some (.invokevirtual 234, 241) := by decide +kernel
theorem li_78_241 : il_78.lookup 241 = some (.iastore, 242) := by decide +kernel
theorem bo_78_198_016f8c : ∀ e ∈ ([(198, .aload_n 0, 199)] : List (Nat × Instr × Nat)), il_78.lookup e.1 = some e.2 := by decide +kernel
theorem li_78_199 : il_78.lookup 199 = some (.getfield 215, 202) := by decide +kernel
theorem li_78_202 : il_78.lookup 202 = some (.ifCond .ne 9, 205) := by decide +kernel
theorem bo_78_205_6622b5 : ∀ e ∈ ([(205, .aload_n 0, 206), (206, .bipush 41, 208)] : List (Nat × Instr × Nat)), il_78.lookup e.1 = some e.2 := by decide +kernel
theorem li_78_208 : il_78.lookup 208 = some (.invokevirtual 226, 211) := by decide +kernel
theorem bo_78_172_2c0fbb : ∀ e ∈ ([(172, .aload_n 0, 173)] : List (Nat × Instr × Nat)), il_78.lookup e.1 = some e.2 := by decide +kernel
theorem li_78_173 : il_78.lookup 173 = some (.getfield 215, 176) := by decide +kernel
theorem li_78_176 : il_78.lookup 176 = some (.ifCond .ne 22, 179) := by decide +kernel
theorem bo_78_179_d797f2 : ∀ e ∈ ([(179, .iload_n 2, 180), (180, .iconst 3, 181)] : List (Nat × Instr × Nat)), il_78.lookup e.1 = some e.2 := by decide +kernel
theorem li_78_181 : il_78.lookup 181 = some (.if_icmp .ge 17, 184) := by decide +kernel
theorem bo_78_184_35f04e : ∀ e ∈ ([(184, .aload_n 0, 185)] : List (Nat × Instr × Nat)), il_78.lookup e.1 = some e.2 := by decide +kernel
theorem li_78_185 : il_78.lookup 185 = some (.getfield 157, 188) := by decide +kernel
theorem bo_78_188_07a9a1 : ∀ e ∈ ([(188, .iload_n 1, 189), (189, .aload_n 0, 190), (190, .bipush (-99), 192), (192, .bipush 99, 194)] : List (Nat × Instr × Nat)), il_78.lookup e.1 = some e.2 := by decide +kernel
theorem li_78_194 : il_78.lookup 194 = some (.invokevirtual 230, 197) := by decide +kernel
theorem li_78_197 : il_78.lookup 197 = some (.iastore, 198) := by decide +kernel
theorem bo_78_154_d0883f : ∀ e ∈ ([(154, .aload_n 0, 155)] : List (Nat × Instr × Nat)), il_78.lookup e.1 = some e.2 := by decide +kernel
theorem li_78_155 : il_78.lookup 155 = some (.getfield 215, 158) := by decide +kernel
theorem li_78_158 : il_78.lookup 158 = some (.ifCond .ne 14, 161) := by decide +kernel
theorem bo_78_161_f80529 : ∀ e ∈ ([(161, .iload_n 2, 162), (162, .iconst 3, 163)] : List (Nat × Instr × Nat)), il_78.lookup e.1 = some e.2 := by decide +kernel
theorem li_78_163 : il_78.lookup 163 = some (.if_icmp .ge 9, 166) := by decide +kernel
theorem bo_78_166_2be6e4 : ∀ e ∈ ([(166, .aload_n 0, 167), (167, .bipush 44, 169)] : List (Nat × Instr × Nat)), il_78.lookup e.1 = some e.2 := by decide +kernel
theorem li_78_169 : il_78.lookup 169 = some (.invokevirtual 226, 172) := by decide +kernel
theorem li_78_150 : il_78.lookup 150 = some (.invokevirtual 230, 153) := by decide +kernel
theorem li_78_153 : il_78.lookup 153 = some (.iastore, 154) := by decide +kernel
theorem bo_78_121_74ff17 : ∀ e ∈ ([(121, .iload_n 2, 122), (122, .iconst 1, 123)] : List (Nat × Instr × Nat)), il_78.lookup e.1 = some e.2 := by decide +kernel
theorem li_78_123 : il_78.lookup 123 = some (.if_icmp .ne 7, 126) := by decide +kernel
theorem bo_78_130_7ab0fb : ∀ e ∈ ([(130, .iload_n 2, 131), (131, .iconst 3, 132)] : List (Nat × Instr × Nat)), il_78.lookup e.1 = some e.2 := by decide +kernel
theorem li_78_132 : il_78.lookup 132 = some (.if_icmp .ne 7, 135) := by decide +kernel
theorem bo_78_139_1ad88e : ∀ e ∈ ([(139, .iload_n 2, 140), (140, .iconst 4, 141)] : List (Nat × Instr × Nat)), il_78.lookup e.1 = some e.2 := by decide +kernel
theorem li_78_141 : il_78.lookup 141 = some (.if_icmp .ne 7, 144) := by decide +kernel
theorem bo_78_148_dcfe63 : ∀ e ∈ ([(148, .bipush 99, 150)] : List (Nat × Instr × Nat)), il_78.lookup e.1 = some e.2 := by decide +kernel
theorem bo_78_144_322ea6 : ∀ e ∈ ([(144, .iconst 5, 145), (145, .goto 5, 148)] : List (Nat × Instr × Nat)), il_78.lookup e.1 = some e.2 := by decide +kernel
theorem bo_78_135_86a7c1 : ∀ e ∈ ([(135, .iconst 3, 136), (136, .goto 14, 139)] : List (Nat × Instr × Nat)), il_78.lookup e.1 = some e.2 := by decide +kernel
theorem bo_78_126_66327d : ∀ e ∈ ([(126, .iconst 2, 127), (127, .goto 23, 130)] : List (Nat × Instr × Nat)), il_78.lookup e.1 = some e.2 := by decide +kernel
theorem bo_78_106_9c4b38 : ∀ e ∈ ([(106, .iconst 0, 107), (107, .goto 14, 110)] : List (Nat × Instr × Nat)), il_78.lookup e.1 = some e.2 := by decide +kernel
theorem bo_78_22_60ac31 : ∀ e ∈ ([(22, .ior, 23)] : List (Nat × Instr × Nat)), il_78.lookup e.1 = some e.2 := by decide +kernel
theorem li_78_23 : il_78.lookup 23 = some (.putfield 215, 26) := by decide +kernel
theorem bo_78_26_bd3b31 : ∀ e ∈ ([(26, .aload_n 0, 27)] : List (Nat × Instr × Nat)), il_78.lookup e.1 = some e.2 := by decide +kernel
theorem li_78_27 : il_78.lookup 27 = some (.getfield 215, 30) := by decide +kernel
theorem li_78_30 : il_78.lookup 30 = some (.ifCond .eq 4, 33) := by decide +kernel
theorem bo_78_34_812988 : ∀ e ∈ ([(34, .aload_n 0, 35), (35, .dup, 36)] : List (Nat × Instr × Nat)), il_78.lookup e.1 = some e.2 := by decide +kernel
theorem li_78_36 : il_78.lookup 36 = some (.getfield 212, 39) := by decide +kernel
theorem bo_78_39_9c41c6 : ∀ e ∈ ([(39, .iconst 1, 40), (40, .iadd, 41)] : List (Nat × Instr × Nat)), il_78.lookup e.1 = some e.2 := by decide +kernel
theorem li_78_41 : il_78.lookup 41 = some (.putfield 212, 44) := by decide +kernel
theorem bo_78_44_56c0aa : ∀ e ∈ ([(44, .aload_n 0, 45)] : List (Nat × Instr × Nat)), il_78.lookup e.1 = some e.2 := by decide +kernel
theorem li_78_45 : il_78.lookup 45 = some (.getfield 151, 48) := by decide +kernel
theorem bo_78_48_3a676f : ∀ e ∈ ([(48, .iload_n 1, 49), (49, .iload_n 2, 50)] : List (Nat × Instr × Nat)), il_78.lookup e.1 = some e.2 := by decide +kernel
theorem li_78_50 : il_78.lookup 50 = some (.iastore, 51) := by decide +kernel
theorem bo_78_51_93c172 : ∀ e ∈ ([(51, .aload_n 0, 52)] : List (Nat × Instr × Nat)), il_78.lookup e.1 = some e.2 := by decide +kernel
theorem li_78_52 : il_78.lookup 52 = some (.getfield 154, 55) := by decide +kernel
theorem bo_78_55_539840 : ∀ e ∈ ([(55, .iload_n 1, 56), (56, .iconst 0, 57)] : List (Nat × Instr × Nat)), il_78.lookup e.1 = some e.2 := by decide +kernel
theorem li_78_57 : il_78.lookup 57 = some (.iastore, 58) := by decide +kernel
theorem bo_78_58_df393a : ∀ e ∈ ([(58, .aload_n 0, 59)] : List (Nat × Instr × Nat)), il_78.lookup e.1 = some e.2 := by decide +kernel
theorem li_78_59 : il_78.lookup 59 = some (.getfield 157, 62) := by decide +kernel
theorem bo_78_62_322124 : ∀ e ∈ ([(62, .iload_n 1, 63), (63, .iconst 0, 64)] : List (Nat × Instr × Nat)), il_78.lookup e.1 = some e.2 := by decide +kernel
theorem li_78_64 : il_78.lookup 64 = some (.iastore, 65) := by decide +kernel
theorem bo_78_65_a2326b : ∀ e ∈ ([(65, .aload_n 0, 66)] : List (Nat × Instr × Nat)), il_78.lookup e.1 = some e.2 := by decide +kernel
theorem li_78_66 : il_78.lookup 66 = some (.getfield 160, 69) := by decide +kernel
theorem bo_78_69_1aaecf : ∀ e ∈ ([(69, .iload_n 1, 70), (70, .iconst 1, 71)] : List (Nat × Instr × Nat)), il_78.lookup e.1 = some e.2 := by decide +kernel
theorem li_78_71 : il_78.lookup 71 = some (.iastore, 72) := by decide +kernel
theorem bo_78_72_215158 : ∀ e ∈ ([(72, .iload_n 2, 73), (73, .iconst 5, 74)] : List (Nat × Instr × Nat)), il_78.lookup e.1 = some e.2 := by decide +kernel
theorem li_78_74 : il_78.lookup 74 = some (.if_icmp .ge 137, 77) := by decide +kernel
theorem bo_78_77_3949c1 : ∀ e ∈ ([(77, .aload_n 0, 78), (78, .bipush 40, 80)] : List (Nat × Instr × Nat)), il_78.lookup e.1 = some e.2 := by decide +kernel
theorem li_78_80 : il_78.lookup 80 = some (.invokevirtual 226, 83) := by decide +kernel
theorem bo_78_83_dbc641 : ∀ e ∈ ([(83, .aload_n 0, 84)] : List (Nat × Instr × Nat)), il_78.lookup e.1 = some e.2 := by decide +kernel
theorem li_78_84 : il_78.lookup 84 = some (.getfield 215, 87) := by decide +kernel
theorem li_78_87 : il_78.lookup 87 = some (.ifCond .ne 67, 90) := by decide +kernel
theorem bo_78_90_d3b5bf : ∀ e ∈ ([(90, .aload_n 0, 91)] : List (Nat × Instr × Nat)), il_78.lookup e.1 = some e.2 := by decide +kernel
theorem li_78_91 : il_78.lookup 91 = some (.getfield 154, 94) := by decide +kernel
theorem bo_78_94_b9dca5 : ∀ e ∈ ([(94, .iload_n 1, 95), (95, .aload_n 0, 96), (96, .iload_n 2, 97), (97, .iconst 1, 98)] : List (Nat × Instr × Nat)), il_78.lookup e.1 = some e.2 := by decide +kernel
theorem li_78_98 : il_78.lookup 98 = some (.if_icmp .eq 8, 101) := by decide +kernel
theorem bo_78_101_c81b70 : ∀ e ∈ ([(101, .iload_n 2, 102), (102, .iconst 3, 103)] : List (Nat × Instr × Nat)), il_78.lookup e.1 = some e.2 := by decide +kernel
theorem li_78_103 : il_78.lookup 103 = some (.if_icmp .ne 7, 106) := by decide +kernel
theorem bo_78_110_62a8bd : ∀ e ∈ ([(110, .iload_n 2, 111), (111, .iconst 4, 112)] : List (Nat × Instr × Nat)), il_78.lookup e.1 = some e.2 := by decide +kernel
theorem li_78_112 : il_78.lookup 112 = some (.if_icmp .ne 7, 115) := by decide +kernel
theorem bo_78_119_726151 : ∀ e ∈ ([(119, .bipush (-99), 121)] : List (Nat × Instr × Nat)), il_78.lookup e.1 = some e.2 := by decide +kernel
theorem bo_78_115_b332e5 : ∀ e ∈ ([(115, .iconst 1, 116), (116, .goto 5, 119)] : List (Nat × Instr × Nat)), il_78.lookup e.1 = some e.2 := by decide +kernel
theorem li_78_33 : il_78.lookup 33 = some (.return_, 34) := by decide +kernel
theorem bo_78_0_8d5162 : ∀ e ∈ ([(0, .aload_n 0, 1)] : List (Nat × Instr × Nat)), il_78.lookup e.1 = some e.2 := by decide +kernel
theorem li_78_1 : il_78.lookup 1 = some (.invokevirtual 219, 4) := by decide +kernel
theorem li_78_4 : il_78.lookup 4 = some (.invokestatic 222, 7) := by decide +kernel
theorem bo_78_7_6bece7 : ∀ e ∈ ([(7, .istore_n 2, 8), (8, .aload_n 0, 9), (9, .dup, 10)] : List (Nat × Instr × Nat)), il_78.lookup e.1 = some e.2 := by decide +kernel
theorem li_78_10 : il_78.lookup 10 = some (.getfield 215, 13) := by decide +kernel
theorem bo_78_13_15f019 : ∀ e ∈ ([(13, .iload_n 2, 14)] : List (Nat × Instr × Nat)), il_78.lookup e.1 = some e.2 := by decide +kernel
theorem li_78_14 : il_78.lookup 14 = some (.ifCond .ge 7, 17) := by decide +kernel
theorem bo_78_21_46c79c : ∀ e ∈ ([(21, .iconst 0, 22)] : List (Nat × Instr × Nat)), il_78.lookup e.1 = some e.2 := by decide +kernel
theorem bo_78_17_03196b : ∀ e ∈ ([(17, .iconst 1, 18), (18, .goto 4, 21)] : List (Nat × Instr × Nat)), il_78.lookup e.1 = some e.2 := by decide +kernel
theorem bo_79_103_b58a7c : ∀ e ∈ ([(103, .iload_n 1, 104), (104, .bipush 96, 106)] : List (Nat × Instr × Nat)), il_79.lookup e.1 = some e.2 := by decide +kernel
theorem li_79_106 : il_79.lookup 106 = some (.if_icmp .ge 45, 109) := by decide +kernel
theorem bo_79_151_ea8669 : ∀ e ∈ ([(151, .aload_n 0, 152), (152, .aload_n 0, 153)] : List (Nat × Instr × Nat)), il_79.lookup e.1 = some e.2 := by decide +kernel
theorem li_79_153 : il_79.lookup 153 = some (.getfield 262, 156) := by decide +kernel
theorem li_79_156 : il_79.lookup 156 = some (.putfield 271, 159) := by decide +kernel
theorem li_79_159 : il_79.lookup 159 = some (.return_, 160) := by decide +kernel
theorem bo_79_109_9ce450 : ∀ e ∈ ([(109, .aload_n 0, 110)] : List (Nat × Instr × Nat)), il_79.lookup e.1 = some e.2 := by decide +kernel
theorem li_79_110 : il_79.lookup 110 = some (.getfield 56, 113) := by decide +kernel
theorem bo_79_113_1e94b2 : ∀ e ∈ ([(113, .iload_n 1, 114), (114, .aload_n 0, 115)] : List (Nat × Instr × Nat)), il_79.lookup e.1 = some e.2 := by decide +kernel
theorem li_79_115 : il_79.lookup 115 = some (.getfield 63, 118) := by decide +kernel
theorem bo_79_118_c412ec : ∀ e ∈ ([(118, .iload_n 1, 119)] : List (Nat × Instr × Nat)), il_79.lookup e.1 = some e.2 := by decide +kernel
theorem li_79_119 : il_79.lookup 119 = some (.baload, 120) := by decide +kernel
theorem li_79_120 : il_79.lookup 120 = some (.bastore, 121) := by decide +kernel
theorem bo_79_121_641af5 : ∀ e ∈ ([(121, .aload_n 0, 122)] : List (Nat × Instr × Nat)), il_79.lookup e.1 = some e.2 := by decide +kernel
theorem li_79_122 : il_79.lookup 122 = some (.getfield 66, 125) := by decide +kernel
theorem bo_79_125_e95541 : ∀ e ∈ ([(125, .iload_n 1, 126), (126, .aload_n 0, 127)] : List (Nat × Instr × Nat)), il_79.lookup e.1 = some e.2 := by decide +kernel
theorem li_79_127 : il_79.lookup 127 = some (.getfield 72, 130) := by decide +kernel
theorem bo_79_130_8e4770 : ∀ e ∈ ([(130, .iload_n 1, 131)] : List (Nat × Instr × Nat)), il_79.lookup e.1 = some e.2 := by decide +kernel
theorem li_79_131 : il_79.lookup 131 = some (.iaload, 132) := by decide +kernel
theorem li_79_132 : il_79.lookup 132 = some (.iastore, 133) := by decide +kernel
theorem bo_79_133_fe448f : ∀ e ∈ ([(133, .aload_n 0, 134)] : List (Nat × Instr × Nat)), il_79.lookup e.1 = some e.2 := by decide +kernel
theorem li_79_134 : il_79.lookup 134 = some (.getfield 75, 137) := by decide +kernel
theorem bo_79_137_4ee428 : ∀ e ∈ ([(137, .iload_n 1, 138), (138, .aload_n 0, 139)] : List (Nat × Instr × Nat)), il_79.lookup e.1 = some e.2 := by decide +kernel
theorem li_79_139 : il_79.lookup 139 = some (.getfield 81, 142) := by decide +kernel
theorem bo_79_142_5324d1 : ∀ e ∈ ([(142, .iload_n 1, 143)] : List (Nat × Instr × Nat)), il_79.lookup e.1 = some e.2 := by decide +kernel
theorem li_79_143 : il_79.lookup 143 = some (.iaload, 144) := by decide +kernel
theorem li_79_144 : il_79.lookup 144 = some (.iastore, 145) := by decide +kernel
theorem bo_79_145_8362d6 : ∀ e ∈ ([(145, .iinc 1 1, 148), (148, .goto (-45), 151)] : List (Nat × Instr × Nat)), il_79.lookup e.1 = some e.2 := by decide +kernel
theorem bo_79_61_cd5945 : ∀ e ∈ ([(61, .iload_n 1, 62), (62, .bipush 54, 64)] : List (Nat × Instr × Nat)), il_79.lookup e.1 = some e.2 := by decide +kernel
theorem li_79_64 : il_79.lookup 64 = some (.if_icmp .ge 37, 67) := by decide +kernel
theorem bo_79_101_c81b70 : ∀ e ∈ ([(101, .iconst 0, 102), (102, .istore_n 1, 103)] : List (Nat × Instr × Nat)), il_79.lookup e.1 = some e.2 := by decide +kernel
theorem bo_79_67_ded3a4 : ∀ e ∈ ([(67, .aload_n 0, 68)] : List (Nat × Instr × Nat)), il_79.lookup e.1 = some e.2 := by decide +kernel
theorem li_79_68 : il_79.lookup 68 = some (.getfield 114, 71) := by decide +kernel
theorem bo_79_71_0bf829 : ∀ e ∈ ([(71, .iload_n 1, 72), (72, .iconst 0, 73)] : List (Nat × Instr × Nat)), il_79.lookup e.1 = some e.2 := by decide +kernel
theorem li_79_73 : il_79.lookup 73 = some (.iastore, 74) := by decide +kernel
theorem bo_79_74_ac6591 : ∀ e ∈ ([(74, .aload_n 0, 75)] : List (Nat × Instr × Nat)), il_79.lookup e.1 = some e.2 := by decide +kernel
theorem li_79_75 : il_79.lookup 75 = some (.getfield 117, 78) := by decide +kernel
theorem bo_79_78_32a02f : ∀ e ∈ ([(78, .iload_n 1, 79), (79, .iconst 0, 80)] : List (Nat × Instr × Nat)), il_79.lookup e.1 = some e.2 := by decide +kernel
theorem li_79_80 : il_79.lookup 80 = some (.iastore, 81) := by decide +kernel
theorem bo_79_81_6cfd26 : ∀ e ∈ ([(81, .aload_n 0, 82)] : List (Nat × Instr × Nat)), il_79.lookup e.1 = some e.2 := by decide +kernel
theorem li_79_82 : il_79.lookup 82 = some (.getfield 129, 85) := by decide +kernel
theorem bo_79_85_7a6887 : ∀ e ∈ ([(85, .iload_n 1, 86), (86, .iconst 0, 87)] : List (Nat × Instr × Nat)), il_79.lookup e.1 = some e.2 := by decide +kernel
theorem li_79_87 : il_79.lookup 87 = some (.iastore, 88) := by decide +kernel
theorem bo_79_88_92252f : ∀ e ∈ ([(88, .aload_n 0, 89)] : List (Nat × Instr × Nat)), il_79.lookup e.1 = some e.2 := by decide +kernel
theorem li_79_89 : il_79.lookup 89 = some (.getfield 132, 92) := by decide +kernel
theorem bo_79_92_f850a5 : ∀ e ∈ ([(92, .iload_n 1, 93), (93, .iconst 0, 94)] : List (Nat × Instr × Nat)), il_79.lookup e.1 = some e.2 := by decide +kernel
theorem li_79_94 : il_79.lookup 94 = some (.iastore, 95) := by decide +kernel
theorem bo_79_95_2aa25d : ∀ e ∈ ([(95, .iinc 1 1, 98), (98, .goto (-37), 101)] : List (Nat × Instr × Nat)), il_79.lookup e.1 = some e.2 := by decide +kernel
theorem bo_79_7_7eef78 : ∀ e ∈ ([(7, .iload_n 1, 8), (8, .bipush 18, 10)] : List (Nat × Instr × Nat)), il_79.lookup e.1 = some e.2 := by decide +kernel
theorem li_79_10 : il_79.lookup 10 = some (.if_icmp .ge 49, 13) := by decide +kernel
theorem bo_79_59_d0b94e : ∀ e ∈ ([(59, .iconst 0, 60), (60, .istore_n 1, 61)] : List (Nat × Instr × Nat)), il_79.lookup e.1 = some e.2 := by decide +kernel
theorem bo_79_13_15f019 : ∀ e ∈ ([(13, .aload_n 0, 14)] : List (Nat × Instr × Nat)), il_79.lookup e.1 = some e.2 := by decide +kernel
theorem li_79_14 : il_79.lookup 14 = some (.getfield 93, 17) := by decide +kernel
theorem bo_79_17_03196b : ∀ e ∈ ([(17, .iload_n 1, 18), (18, .iconst 0, 19)] : List (Nat × Instr × Nat)), il_79.lookup e.1 = some e.2 := by decide +kernel
theorem li_79_19 : il_79.lookup 19 = some (.iastore, 20) := by decide +kernel
theorem bo_79_20_baa9a0 : ∀ e ∈ ([(20, .aload_n 0, 21)] : List (Nat × Instr × Nat)), il_79.lookup e.1 = some e.2 := by decide +kernel
theorem li_79_21 : il_79.lookup 21 = some (.getfield 105, 24) := by decide +kernel
theorem bo_79_24_35ae4e : ∀ e ∈ ([(24, .iload_n 1, 25), (25, .iconst 0, 26)] : List (Nat × Instr × Nat)), il_79.lookup e.1 = some e.2 := by decide +kernel
theorem li_79_26 : il_79.lookup 26 = some (.iastore, 27) := by decide +kernel
theorem bo_79_27_58fada : ∀ e ∈ ([(27, .aload_n 0, 28)] : List (Nat × Instr × Nat)), il_79.lookup e.1 = some e.2 := by decide +kernel
theorem li_79_28 : il_79.lookup 28 = some (.getfield 108, 31) := by decide +kernel
theorem bo_79_31_f6932f : ∀ e ∈ ([(31, .iload_n 1, 32), (32, .iconst 0, 33)] : List (Nat × Instr × Nat)), il_79.lookup e.1 = some e.2 := by decide +kernel
theorem li_79_33 : il_79.lookup 33 = some (.iastore, 34) := by decide +kernel
theorem bo_79_34_130638 : ∀ e ∈ ([(34, .aload_n 0, 35)] : List (Nat × Instr × Nat)), il_79.lookup e.1 = some e.2 := by decide +kernel
theorem li_79_35 : il_79.lookup 35 = some (.getfield 111, 38) := by decide +kernel
theorem bo_79_38_ef227d : ∀ e ∈ ([(38, .iload_n 1, 39), (39, .iconst 0, 40)] : List (Nat × Instr × Nat)), il_79.lookup e.1 = some e.2 := by decide +kernel
theorem li_79_40 : il_79.lookup 40 = some (.bastore, 41) := by decide +kernel
theorem bo_79_41_45abaf : ∀ e ∈ ([(41, .aload_n 0, 42)] : List (Nat × Instr × Nat)), il_79.lookup e.1 = some e.2 := by decide +kernel
theorem li_79_42 : il_79.lookup 42 = some (.getfield 84, 45) := by decide +kernel
theorem bo_79_45_b7d017 : ∀ e ∈ ([(45, .iload_n 1, 46), (46, .aload_n 0, 47)] : List (Nat × Instr × Nat)), il_79.lookup e.1 = some e.2 := by decide +kernel
theorem li_79_47 : il_79.lookup 47 = some (.getfield 90, 50) := by decide +kernel
theorem bo_79_50_8a8783 : ∀ e ∈ ([(50, .iload_n 1, 51)] : List (Nat × Instr × Nat)), il_79.lookup e.1 = some e.2 := by decide +kernel
theorem li_79_51 : il_79.lookup 51 = some (.iaload, 52) := by decide +kernel
theorem li_79_52 : il_79.lookup 52 = some (.iastore, 53) := by decide +kernel
theorem bo_79_53_9caf1e : ∀ e ∈ ([(53, .iinc 1 1, 56), (56, .goto (-49), 59)] : List (Nat × Instr × Nat)), il_79.lookup e.1 = some e.2 := by decide +kernel
theorem bo_79_0_264884 : ∀ e ∈ ([(0, .aload_n 0, 1), (1, .iconst 0, 2)] : List (Nat × Instr × Nat)), il_79.lookup e.1 = some e.2 := by decide +kernel
theorem li_79_2 : il_79.lookup 2 = some (.putfield 268, 5) := by decide +kernel
theorem bo_79_5_ca77c4 : ∀ e ∈ ([(5, .iconst 0, 6), (6, .istore_n 1, 7)] : List (Nat × Instr × Nat)), il_79.lookup e.1 = some e.2 := by decide +kernel
theorem bo_80_114_f55a89 : ∀ e ∈ ([(114, .iload_n 1, 115), (115, .bipush 6, 117)] : List (Nat × Instr × Nat)), il_80.lookup e.1 = some e.2 := by decide +kernel
theorem li_80_117 : il_80.lookup 117 = some (.if_icmp .ge 37, 120) := by decide +kernel
theorem bo_80_154_d0883f : ∀ e ∈ ([(154, .aload_n 0, 155)] : List (Nat × Instr × Nat)), il_80.lookup e.1 = some e.2 := by decide +kernel
theorem li_80_155 : il_80.lookup 155 = some (.invokevirtual 265, 158) := by decide +kernel
theorem li_80_158 : il_80.lookup 158 = some (.return_, 159) := by decide +kernel
theorem bo_80_120_9b2503 : ∀ e ∈ ([(120, .aload_n 0, 121)] : List (Nat × Instr × Nat)), il_80.lookup e.1 = some e.2 := by decide +kernel
theorem li_80_121 : il_80.lookup 121 = some (.getfield 44, 124) := by decide +kernel
theorem bo_80_124_a52981 : ∀ e ∈ ([(124, .iload_n 1, 125), (125, .iconst 0, 126)] : List (Nat × Instr × Nat)), il_80.lookup e.1 = some e.2 := by decide +kernel
theorem li_80_126 : il_80.lookup 126 = some (.iastore, 127) := by decide +kernel
theorem bo_80_127_244a0d : ∀ e ∈ ([(127, .aload_n 0, 128)] : List (Nat × Instr × Nat)), il_80.lookup e.1 = some e.2 := by decide +kernel
theorem li_80_128 : il_80.lookup 128 = some (.getfield 47, 131) := by decide +kernel
theorem bo_80_131_020aa4 : ∀ e ∈ ([(131, .iload_n 1, 132), (132, .iconst 0, 133)] : List (Nat × Instr × Nat)), il_80.lookup e.1 = some e.2 := by decide +kernel
theorem li_80_133 : il_80.lookup 133 = some (.iastore, 134) := by decide +kernel
theorem bo_80_134_525680 : ∀ e ∈ ([(134, .aload_n 0, 135)] : List (Nat × Instr × Nat)), il_80.lookup e.1 = some e.2 := by decide +kernel
theorem li_80_135 : il_80.lookup 135 = some (.getfield 50, 138) := by decide +kernel
theorem bo_80_138_621b70 : ∀ e ∈ ([(138, .iload_n 1, 139), (139, .iconst 0, 140)] : List (Nat × Instr × Nat)), il_80.lookup e.1 = some e.2 := by decide +kernel
theorem li_80_140 : il_80.lookup 140 = some (.iastore, 141) := by decide +kernel
theorem bo_80_141_b0c808 : ∀ e ∈ ([(141, .aload_n 0, 142)] : List (Nat × Instr × Nat)), il_80.lookup e.1 = some e.2 := by decide +kernel
theorem li_80_142 : il_80.lookup 142 = some (.getfield 53, 145) := by decide +kernel
theorem bo_80_145_75c003 : ∀ e ∈ ([(145, .iload_n 1, 146), (146, .iconst 0, 147)] : List (Nat × Instr × Nat)), il_80.lookup e.1 = some e.2 := by decide +kernel
theorem li_80_147 : il_80.lookup 147 = some (.iastore, 148) := by decide +kernel
theorem bo_80_148_3f5e08 : ∀ e ∈ ([(148, .iinc 1 1, 151), (151, .goto (-37), 154)] : List (Nat × Instr × Nat)), il_80.lookup e.1 = some e.2 := by decide +kernel
theorem bo_80_93_aa3b03 : ∀ e ∈ ([(93, .iload_n 1, 94), (94, .bipush 18, 96)] : List (Nat × Instr × Nat)), il_80.lookup e.1 = some e.2 := by decide +kernel
theorem li_80_96 : il_80.lookup 96 = some (.if_icmp .ge 16, 99) := by decide +kernel
theorem bo_80_112_dbfc8f : ∀ e ∈ ([(112, .iconst 0, 113), (113, .istore_n 1, 114)] : List (Nat × Instr × Nat)), il_80.lookup e.1 = some e.2 := by decide +kernel
theorem bo_80_99_e6cd5c : ∀ e ∈ ([(99, .aload_n 0, 100)] : List (Nat × Instr × Nat)), il_80.lookup e.1 = some e.2 := by decide +kernel
theorem li_80_100 : il_80.lookup 100 = some (.getfield 90, 103) := by decide +kernel
theorem bo_80_103_b58a7c : ∀ e ∈ ([(103, .iload_n 1, 104), (104, .iconst 0, 105)] : List (Nat × Instr × Nat)), il_80.lookup e.1 = some e.2 := by decide +kernel
theorem li_80_105 : il_80.lookup 105 = some (.iastore, 106) := by decide +kernel
theorem bo_80_106_5689c2 : ∀ e ∈ ([(106, .iinc 1 1, 109), (109, .goto (-16), 112)] : List (Nat × Instr × Nat)), il_80.lookup e.1 = some e.2 := by decide +kernel
theorem bo_80_58_6e952f : ∀ e ∈ ([(58, .iload_n 1, 59), (59, .bipush 96, 61)] : List (Nat × Instr × Nat)), il_80.lookup e.1 = some e.2 := by decide +kernel
theorem li_80_61 : il_80.lookup 61 = some (.if_icmp .ge 30, 64) := by decide +kernel
theorem bo_80_91_e197d6 : ∀ e ∈ ([(91, .iconst 0, 92), (92, .istore_n 1, 93)] : List (Nat × Instr × Nat)), il_80.lookup e.1 = some e.2 := by decide +kernel
theorem bo_80_64_446f01 : ∀ e ∈ ([(64, .aload_n 0, 65)] : List (Nat × Instr × Nat)), il_80.lookup e.1 = some e.2 := by decide +kernel
theorem li_80_65 : il_80.lookup 65 = some (.getfield 63, 68) := by decide +kernel
theorem bo_80_68_702533 : ∀ e ∈ ([(68, .iload_n 1, 69), (69, .iconst 0, 70)] : List (Nat × Instr × Nat)), il_80.lookup e.1 = some e.2 := by decide +kernel
theorem li_80_70 : il_80.lookup 70 = some (.bastore, 71) := by decide +kernel
theorem bo_80_71_2ba9bf : ∀ e ∈ ([(71, .aload_n 0, 72)] : List (Nat × Instr × Nat)), il_80.lookup e.1 = some e.2 := by decide +kernel
theorem li_80_72 : il_80.lookup 72 = some (.getfield 72, 75) := by decide +kernel
theorem bo_80_75_c3e58c : ∀ e ∈ ([(75, .iload_n 1, 76), (76, .iconst 0, 77)] : List (Nat × Instr × Nat)), il_80.lookup e.1 = some e.2 := by decide +kernel
theorem li_80_77 : il_80.lookup 77 = some (.iastore, 78) := by decide +kernel
theorem bo_80_78_ade702 : ∀ e ∈ ([(78, .aload_n 0, 79)] : List (Nat × Instr × Nat)), il_80.lookup e.1 = some e.2 := by decide +kernel
theorem li_80_79 : il_80.lookup 79 = some (.getfield 81, 82) := by decide +kernel
theorem bo_80_82_695807 : ∀ e ∈ ([(82, .iload_n 1, 83), (83, .iconst 0, 84)] : List (Nat × Instr × Nat)), il_80.lookup e.1 = some e.2 := by decide +kernel
theorem li_80_84 : il_80.lookup 84 = some (.iastore, 85) := by decide +kernel
theorem bo_80_85_63a5e1 : ∀ e ∈ ([(85, .iinc 1 1, 88), (88, .goto (-30), 91)] : List (Nat × Instr × Nat)), il_80.lookup e.1 = some e.2 := by decide +kernel
theorem bo_80_17_03196b : ∀ e ∈ ([(17, .iload_n 1, 18), (18, .ldc 147, 20)] : List (Nat × Instr × Nat)), il_80.lookup e.1 = some e.2 := by decide +kernel
theorem li_80_20 : il_80.lookup 20 = some (.if_icmp .ge 16, 23) := by decide +kernel
theorem bo_80_36_285c9e : ∀ e ∈ ([(36, .aload_n 0, 37), (37, .iconst 0, 38)] : List (Nat × Instr × Nat)), il_80.lookup e.1 = some e.2 := by decide +kernel
theorem li_80_38 : il_80.lookup 38 = some (.putfield 253, 41) := by decide +kernel
theorem bo_80_41_4c2c9e : ∀ e ∈ ([(41, .aload_n 0, 42), (42, .iconst 0, 43)] : List (Nat × Instr × Nat)), il_80.lookup e.1 = some e.2 := by decide +kernel
theorem li_80_43 : il_80.lookup 43 = some (.putfield 256, 46) := by decide +kernel
theorem bo_80_46_341f4e : ∀ e ∈ ([(46, .aload_n 0, 47), (47, .iconst 0, 48)] : List (Nat × Instr × Nat)), il_80.lookup e.1 = some e.2 := by decide +kernel
theorem li_80_48 : il_80.lookup 48 = some (.putfield 259, 51) := by decide +kernel
theorem bo_80_51_a39201 : ∀ e ∈ ([(51, .aload_n 0, 52), (52, .iconst 0, 53)] : List (Nat × Instr × Nat)), il_80.lookup e.1 = some e.2 := by decide +kernel
theorem li_80_53 : il_80.lookup 53 = some (.putfield 262, 56) := by decide +kernel
theorem bo_80_56_ba4435 : ∀ e ∈ ([(56, .iconst 0, 57), (57, .istore_n 1, 58)] : List (Nat × Instr × Nat)), il_80.lookup e.1 = some e.2 := by decide +kernel
theorem bo_80_23_b37e12 : ∀ e ∈ ([(23, .aload_n 0, 24)] : List (Nat × Instr × Nat)), il_80.lookup e.1 = some e.2 := by decide +kernel
theorem li_80_24 : il_80.lookup 24 = some (.getfield 148, 27) := by decide +kernel
theorem bo_80_27_fe3fdb : ∀ e ∈ ([(27, .iload_n 1, 28), (28, .iconst 0, 29)] : List (Nat × Instr × Nat)), il_80.lookup e.1 = some e.2 := by decide +kernel
theorem li_80_29 : il_80.lookup 29 = some (.iastore, 30) := by decide +kernel
theorem bo_80_30_c7d85e : ∀ e ∈ ([(30, .iinc 1 1, 33), (33, .goto (-16), 36)] : List (Nat × Instr × Nat)), il_80.lookup e.1 = some e.2 := by decide +kernel
theorem bo_80_0_264884 : ∀ e ∈ ([(0, .aload_n 0, 1), (1, .iconst 0, 2)] : List (Nat × Instr × Nat)), il_80.lookup e.1 = some e.2 := by decide +kernel
theorem li_80_2 : il_80.lookup 2 = some (.putfield 243, 5) := by decide +kernel
theorem bo_80_5_ca77c4 : ∀ e ∈ ([(5, .aload_n 0, 6), (6, .iconst 0, 7)] : List (Nat × Instr × Nat)), il_80.lookup e.1 = some e.2 := by decide +kernel
theorem li_80_7 : il_80.lookup 7 = some (.putfield 246, 10) := by decide +kernel
theorem bo_80_10_42a704 : ∀ e ∈ ([(10, .aload_n 0, 11), (11, .lconst 0, 12)] : List (Nat × Instr × Nat)), il_80.lookup e.1 = some e.2 := by decide +kernel
theorem li_80_12 : il_80.lookup 12 = some (.putfield 249, 15) := by decide +kernel
theorem bo_80_15_d45c32 : ∀ e ∈ ([(15, .iconst 0, 16), (16, .istore_n 1, 17)] : List (Nat × Instr × Nat)), il_80.lookup e.1 = some e.2 := by decide +kernel
theorem bo_81_206_c4f971 : ∀ e ∈ ([(206, .iload_n 3, 207), (207, .iload_n 1, 208)] : List (Nat × Instr × Nat)), il_81.lookup e.1 = some e.2 := by decide +kernel
theorem li_81_208 : il_81.lookup 208 = some (.if_icmp .gt 57, 211) := by decide +kernel
theorem bo_81_265_bbb510 : ∀ e ∈ ([(265, .aload_n 0, 266)] : List (Nat × Instr × Nat)), il_81.lookup e.1 = some e.2 := by decide +kernel
theorem li_81_266 : il_81.lookup 266 = some (.getfield 13, 269) := by decide +kernel
theorem bo_81_269_34dbd1 : ∀ e ∈ ([(269, .iload_n 1, 270), (270, .iconst 1, 271), (271, .iadd, 272), (272, .bipush 8, 274)] : List (Nat × Instr × Nat)), il_81.lookup e.1 = some e.2 := by decide +kernel
theorem li_81_274 : il_81.lookup 274 = some (.iastore, 275) := by decide +kernel
theorem bo_81_275_c7603a : ∀ e ∈ ([(275, .aload_n 0, 276)] : List (Nat × Instr × Nat)), il_81.lookup e.1 = some e.2 := by decide +kernel
theorem li_81_276 : il_81.lookup 276 = some (.getfield 16, 279) := by decide +kernel
theorem bo_81_279_db610f : ∀ e ∈ ([(279, .iload_n 1, 280), (280, .iconst 1, 281), (281, .iadd, 282), (282, .iconst 0, 283)] : List (Nat × Instr × Nat)), il_81.lookup e.1 = some e.2 := by decide +kernel
theorem li_81_283 : il_81.lookup 283 = some (.iastore, 284) := by decide +kernel
theorem bo_81_284_df1c59 : ∀ e ∈ ([(284, .aload_n 0, 285)] : List (Nat × Instr × Nat)), il_81.lookup e.1 = some e.2 := by decide +kernel
theorem li_81_285 : il_81.lookup 285 = some (.getfield 19, 288) := by decide +kernel
theorem bo_81_288_2b2146 : ∀ e ∈ ([(288, .iload_n 1, 289), (289, .iconst 1, 290), (290, .iadd, 291), (291, .iconst 0, 292)] : List (Nat × Instr × Nat)), il_81.lookup e.1 = some e.2 := by decide +kernel
theorem li_81_292 : il_81.lookup 292 = some (.iastore, 293) := by decide +kernel
theorem bo_81_293_aab9c9 : ∀ e ∈ ([(293, .aload_n 0, 294)] : List (Nat × Instr × Nat)), il_81.lookup e.1 = some e.2 := by decide +kernel
theorem li_81_294 : il_81.lookup 294 = some (.getfield 22, 297) := by decide +kernel
theorem bo_81_297_74f684 : ∀ e ∈ ([(297, .iload_n 1, 298), (298, .iconst 1, 299), (299, .iadd, 300), (300, .aload_n 0, 301)] : List (Nat × Instr × Nat)), il_81.lookup e.1 = some e.2 := by decide +kernel
theorem li_81_301 : il_81.lookup 301 = some (.getfield 160, 304) := by decide +kernel
theorem bo_81_304_6a6719 : ∀ e ∈ ([(304, .iload_n 1, 305), (305, .iconst 1, 306), (306, .iadd, 307)] : List (Nat × Instr × Nat)), il_81.lookup e.1 = some e.2 := by decide +kernel
theorem li_81_307 : il_81.lookup 307 = some (.iaload, 308) := by decide +kernel
theorem li_81_308 : il_81.lookup 308 = some (.iastore, 309) := by decide +kernel
theorem bo_81_309_7b2c08 : ∀ e ∈ ([(309, .aload_n 0, 310)] : List (Nat × Instr × Nat)), il_81.lookup e.1 = some e.2 := by decide +kernel
theorem li_81_310 : il_81.lookup 310 = some (.invokevirtual 240, 313) := by decide +kernel
theorem bo_81_313_e50e5c : ∀ e ∈ ([(313, .iload_n 1, 314)] : List (Nat × Instr × Nat)), il_81.lookup e.1 = some e.2 := by decide +kernel
theorem li_81_314 : il_81.lookup 314 = some (.ireturn, 315) := by decide +kernel
theorem bo_81_211_fe9fe9 : ∀ e ∈ ([(211, .aload_n 0, 212)] : List (Nat × Instr × Nat)), il_81.lookup e.1 = some e.2 := by decide +kernel
theorem li_81_212 : il_81.lookup 212 = some (.getfield 13, 215) := by decide +kernel
theorem bo_81_215_1eb4ab : ∀ e ∈ ([(215, .iload_n 3, 216), (216, .aload_n 0, 217)] : List (Nat × Instr × Nat)), il_81.lookup e.1 = some e.2 := by decide +kernel
theorem li_81_217 : il_81.lookup 217 = some (.getfield 151, 220) := by decide +kernel
theorem bo_81_220_82dbe1 : ∀ e ∈ ([(220, .iload_n 3, 221)] : List (Nat × Instr × Nat)), il_81.lookup e.1 = some e.2 := by decide +kernel
theorem li_81_221 : il_81.lookup 221 = some (.iaload, 222) := by decide +kernel
theorem li_81_222 : il_81.lookup 222 = some (.iastore, 223) := by decide +kernel
theorem bo_81_223_6c8511 : ∀ e ∈ ([(223, .aload_n 0, 224)] : List (Nat × Instr × Nat)), il_81.lookup e.1 = some e.2 := by decide +kernel
theorem li_81_224 : il_81.lookup 224 = some (.getfield 16, 227) := by decide +kernel
theorem bo_81_227_0bf377 : ∀ e ∈ ([(227, .iload_n 3, 228), (228, .aload_n 0, 229)] : List (Nat × Instr × Nat)), il_81.lookup e.1 = some e.2 := by decide +kernel
theorem li_81_229 : il_81.lookup 229 = some (.getfield 154, 232) := by decide +kernel
theorem bo_81_232_d77f52 : ∀ e ∈ ([(232, .iload_n 3, 233)] : List (Nat × Instr × Nat)), il_81.lookup e.1 = some e.2 := by decide +kernel
theorem li_81_233 : il_81.lookup 233 = some (.iaload, 234) := by decide +kernel
theorem li_81_234 : il_81.lookup 234 = some (.iastore, 235) := by decide +kernel
theorem bo_81_235_a35f56 : ∀ e ∈ ([(235, .aload_n 0, 236)] : List (Nat × Instr × Nat)), il_81.lookup e.1 = some e.2 := by decide +kernel
theorem li_81_236 : il_81.lookup 236 = some (.getfield 19, 239) := by decide +kernel
theorem bo_81_239_722975 : ∀ e ∈ ([(239, .iload_n 3, 240), (240, .aload_n 0, 241)] : List (Nat × Instr × Nat)), il_81.lookup e.1 = some e.2 := by decide +kernel
theorem li_81_241 : il_81.lookup 241 = some (.getfield 157, 244) := by decide +kernel
theorem bo_81_244_54d8b4 : ∀ e ∈ ([(244, .iload_n 3, 245)] : List (Nat × Instr × Nat)), il_81.lookup e.1 = some e.2 := by decide +kernel
theorem li_81_245 : il_81.lookup 245 = some (.iaload, 246) := by decide +kernel
theorem li_81_246 : il_81.lookup 246 = some (.iastore, 247) := by decide +kernel
theorem bo_81_247_28ff05 : ∀ e ∈ ([(247, .aload_n 0, 248)] : List (Nat × Instr × Nat)), il_81.lookup e.1 = some e.2 := by decide +kernel
theorem li_81_248 : il_81.lookup 248 = some (.getfield 22, 251) := by decide +kernel
theorem bo_81_251_c66976 : ∀ e ∈ ([(251, .iload_n 3, 252), (252, .aload_n 0, 253)] : List (Nat × Instr × Nat)), il_81.lookup e.1 = some e.2 := by decide +kernel
theorem li_81_253 : il_81.lookup 253 = some (.getfield 160, 256) := by decide +kernel
theorem bo_81_256_b134b4 : ∀ e ∈ ([(256, .iload_n 3, 257)] : List (Nat × Instr × Nat)), il_81.lookup e.1 = some e.2 := by decide +kernel
theorem li_81_257 : il_81.lookup 257 = some (.iaload, 258) := by decide +kernel
theorem li_81_258 : il_81.lookup 258 = some (.iastore, 259) := by decide +kernel
theorem bo_81_259_7827d3 : ∀ e ∈ ([(259, .iinc 3 1, 262), (262, .goto (-56), 265)] : List (Nat × Instr × Nat)), il_81.lookup e.1 = some e.2 := by decide +kernel
theorem bo_81_174_413a52 : ∀ e ∈ ([(174, .ior, 175)] : List (Nat × Instr × Nat)), il_81.lookup e.1 = some e.2 := by decide +kernel
theorem li_81_175 : il_81.lookup 175 = some (.putfield 215, 178) := by decide +kernel
theorem bo_81_178_b54c93 : ∀ e ∈ ([(178, .aload_n 0, 179), (179, .iconst 0, 180)] : List (Nat × Instr × Nat)), il_81.lookup e.1 = some e.2 := by decide +kernel
theorem li_81_180 : il_81.lookup 180 = some (.putfield 208, 183) := by decide +kernel
theorem bo_81_183_e2873b : ∀ e ∈ ([(183, .aload_n 0, 184)] : List (Nat × Instr × Nat)), il_81.lookup e.1 = some e.2 := by decide +kernel
theorem li_81_184 : il_81.lookup 184 = some (.getfield 215, 187) := by decide +kernel
theorem li_81_187 : il_81.lookup 187 = some (.ifCond .eq 12, 190) := by decide +kernel
theorem bo_81_199_9246c1 : ∀ e ∈ ([(199, .aload_n 0, 200), (200, .iload_n 1, 201)] : List (Nat × Instr × Nat)), il_81.lookup e.1 = some e.2 := by decide +kernel
theorem li_81_201 : il_81.lookup 201 = some (.putfield 196, 204) := by decide +kernel
theorem bo_81_204_458d6e : ∀ e ∈ ([(204, .iconst 1, 205), (205, .istore_n 3, 206)] : List (Nat × Instr × Nat)), il_81.lookup e.1 = some e.2 := by decide +kernel
theorem bo_81_190_59be1b : ∀ e ∈ ([(190, .sipush (-2000), 193), (193, .aload_n 0, 194)] : List (Nat × Instr × Nat)), il_81.lookup e.1 = some e.2 := by decide +kernel
theorem li_81_194 : il_81.lookup 194 = some (.getfield 212, 197) := by decide +kernel
theorem bo_81_197_f35caa : ∀ e ∈ ([(197, .isub, 198)] : List (Nat × Instr × Nat)), il_81.lookup e.1 = some e.2 := by decide +kernel
theorem li_81_198 : il_81.lookup 198 = some (.ireturn, 199) := by decide +kernel
theorem bo_81_153_10d163 : ∀ e ∈ ([(153, .aload_n 0, 154), (154, .dup, 155)] : List (Nat × Instr × Nat)), il_81.lookup e.1 = some e.2 := by decide +kernel
theorem li_81_155 : il_81.lookup 155 = some (.getfield 215, 158) := by decide +kernel
theorem bo_81_158_f605b0 : ∀ e ∈ ([(158, .aload_n 0, 159)] : List (Nat × Instr × Nat)), il_81.lookup e.1 = some e.2 := by decide +kernel
theorem li_81_159 : il_81.lookup 159 = some (.getfield 212, 162) := by decide +kernel
theorem bo_81_162_7ec365 : ∀ e ∈ ([(162, .aload_n 0, 163)] : List (Nat × Instr × Nat)), il_81.lookup e.1 = some e.2 := by decide +kernel
theorem li_81_163 : il_81.lookup 163 = some (.getfield 208, 166) := by decide +kernel
theorem li_81_166 : il_81.lookup 166 = some (.if_icmp .ge 7, 169) := by decide +kernel
theorem bo_81_173_5c8c37 : ∀ e ∈ ([(173, .iconst 0, 174)] : List (Nat × Instr × Nat)), il_81.lookup e.1 = some e.2 := by decide +kernel
theorem bo_81_169_57ebd2 : ∀ e ∈ ([(169, .iconst 1, 170), (170, .goto 4, 173)] : List (Nat × Instr × Nat)), il_81.lookup e.1 = some e.2 := by decide +kernel
theorem bo_81_113_1912b2 : ∀ e ∈ ([(113, .iconst 1, 114)] : List (Nat × Instr × Nat)), il_81.lookup e.1 = some e.2 := by decide +kernel
theorem li_81_114 : il_81.lookup 114 = some (.iastore, 115) := by decide +kernel
theorem bo_81_115_b9a51b : ∀ e ∈ ([(115, .aload_n 0, 116)] : List (Nat × Instr × Nat)), il_81.lookup e.1 = some e.2 := by decide +kernel
theorem li_81_116 : il_81.lookup 116 = some (.getfield 215, 119) := by decide +kernel
theorem li_81_119 : il_81.lookup 119 = some (.ifCond .ne 34, 122) := by decide +kernel
theorem bo_81_122_61bca2 : ∀ e ∈ ([(122, .aload_n 0, 123)] : List (Nat × Instr × Nat)), il_81.lookup e.1 = some e.2 := by decide +kernel
theorem li_81_123 : il_81.lookup 123 = some (.invokevirtual 219, 126) := by decide +kernel
theorem bo_81_126_5d1f94 : ∀ e ∈ ([(126, .bipush 36, 128)] : List (Nat × Instr × Nat)), il_81.lookup e.1 = some e.2 := by decide +kernel
theorem li_81_128 : il_81.lookup 128 = some (.if_icmp .ne 25, 131) := by decide +kernel
theorem bo_81_131_020aa4 : ∀ e ∈ ([(131, .aload_n 0, 132), (132, .dup, 133)] : List (Nat × Instr × Nat)), il_81.lookup e.1 = some e.2 := by decide +kernel
theorem li_81_133 : il_81.lookup 133 = some (.getfield 212, 136) := by decide +kernel
theorem bo_81_136_77463b : ∀ e ∈ ([(136, .iconst 1, 137), (137, .iadd, 138)] : List (Nat × Instr × Nat)), il_81.lookup e.1 = some e.2 := by decide +kernel
theorem li_81_138 : il_81.lookup 138 = some (.putfield 212, 141) := by decide +kernel
theorem bo_81_141_b0c808 : ∀ e ∈ ([(141, .aload_n 0, 142)] : List (Nat × Instr × Nat)), il_81.lookup e.1 = some e.2 := by decide +kernel
theorem li_81_142 : il_81.lookup 142 = some (.getfield 160, 145) := by decide +kernel
theorem bo_81_145_0fb9d9 : ∀ e ∈ ([(145, .iload_n 1, 146), (146, .iconst 1, 147), (147, .iadd, 148), (148, .aload_n 0, 149)] : List (Nat × Instr × Nat)), il_81.lookup e.1 = some e.2 := by decide +kernel
theorem li_81_149 : il_81.lookup 149 = some (.invokevirtual 234, 152) := by decide +kernel
theorem li_81_152 : il_81.lookup 152 = some (.iastore, 153) := by decide +kernel
theorem bo_81_87_816bca : ∀ e ∈ ([(87, .iadd, 88)] : List (Nat × Instr × Nat)), il_81.lookup e.1 = some e.2 := by decide +kernel
theorem li_81_88 : il_81.lookup 88 = some (.putfield 212, 91) := by decide +kernel
theorem bo_81_91_23d558 : ∀ e ∈ ([(91, .goto (-57), 94)] : List (Nat × Instr × Nat)), il_81.lookup e.1 = some e.2 := by decide +kernel
theorem bo_81_72_4203c3 : ∀ e ∈ ([(72, .istore_n 2, 73), (73, .aload_n 0, 74), (74, .dup, 75)] : List (Nat × Instr × Nat)), il_81.lookup e.1 = some e.2 := by decide +kernel
theorem li_81_75 : il_81.lookup 75 = some (.getfield 212, 78) := by decide +kernel
theorem bo_81_78_ade702 : ∀ e ∈ ([(78, .iload_n 2, 79)] : List (Nat × Instr × Nat)), il_81.lookup e.1 = some e.2 := by decide +kernel
theorem li_81_79 : il_81.lookup 79 = some (.ifCond .eq 7, 82) := by decide +kernel
theorem bo_81_86_bff005 : ∀ e ∈ ([(86, .iconst 0, 87)] : List (Nat × Instr × Nat)), il_81.lookup e.1 = some e.2 := by decide +kernel
theorem bo_81_82_695807 : ∀ e ∈ ([(82, .iconst 1, 83), (83, .goto 4, 86)] : List (Nat × Instr × Nat)), il_81.lookup e.1 = some e.2 := by decide +kernel
theorem bo_81_71_2ba9bf : ∀ e ∈ ([(71, .iconst 0, 72)] : List (Nat × Instr × Nat)), il_81.lookup e.1 = some e.2 := by decide +kernel
theorem bo_81_34_130638 : ∀ e ∈ ([(34, .iload_n 2, 35)] : List (Nat × Instr × Nat)), il_81.lookup e.1 = some e.2 := by decide +kernel
theorem li_81_35 : il_81.lookup 35 = some (.ifCond .eq 59, 38) := by decide +kernel
theorem bo_81_94_6615ab : ∀ e ∈ ([(94, .aload_n 0, 95)] : List (Nat × Instr × Nat)), il_81.lookup e.1 = some e.2 := by decide +kernel
theorem li_81_95 : il_81.lookup 95 = some (.getfield 160, 98) := by decide +kernel
theorem bo_81_98_d3ea59 : ∀ e ∈ ([(98, .iload_n 1, 99), (99, .iconst 1, 100), (100, .iadd, 101), (101, .bipush 6, 103)] : List (Nat × Instr × Nat)), il_81.lookup e.1 = some e.2 := by decide +kernel
theorem li_81_103 : il_81.lookup 103 = some (.if_icmp .ge 9, 106) := by decide +kernel
theorem bo_81_112_a01649 : ∀ e ∈ ([(112, .iconst 0, 113)] : List (Nat × Instr × Nat)), il_81.lookup e.1 = some e.2 := by decide +kernel
theorem bo_81_106_18132c : ∀ e ∈ ([(106, .iload_n 1, 107), (107, .iconst 1, 108), (108, .iadd, 109), (109, .goto 4, 112)] : List (Nat × Instr × Nat)), il_81.lookup e.1 = some e.2 := by decide +kernel
theorem bo_81_38_53874e : ∀ e ∈ ([(38, .iinc 1 1, 41), (41, .aload_n 0, 42), (42, .iload_n 1, 43)] : List (Nat × Instr × Nat)), il_81.lookup e.1 = some e.2 := by decide +kernel
theorem li_81_43 : il_81.lookup 43 = some (.invokevirtual 237, 46) := by decide +kernel
theorem bo_81_46_4b02d4 : ∀ e ∈ ([(46, .aload_n 0, 47)] : List (Nat × Instr × Nat)), il_81.lookup e.1 = some e.2 := by decide +kernel
theorem li_81_47 : il_81.lookup 47 = some (.getfield 215, 50) := by decide +kernel
theorem li_81_50 : il_81.lookup 50 = some (.ifCond .ne 21, 53) := by decide +kernel
theorem bo_81_53_a422c0 : ∀ e ∈ ([(53, .aload_n 0, 54)] : List (Nat × Instr × Nat)), il_81.lookup e.1 = some e.2 := by decide +kernel
theorem li_81_54 : il_81.lookup 54 = some (.invokevirtual 219, 57) := by decide +kernel
theorem bo_81_57_a9d9a3 : ∀ e ∈ ([(57, .bipush 124, 59)] : List (Nat × Instr × Nat)), il_81.lookup e.1 = some e.2 := by decide +kernel
theorem li_81_59 : il_81.lookup 59 = some (.if_icmp .ne 12, 62) := by decide +kernel
theorem bo_81_62_322124 : ∀ e ∈ ([(62, .iload_n 1, 63), (63, .iconst 4, 64)] : List (Nat × Instr × Nat)), il_81.lookup e.1 = some e.2 := by decide +kernel
theorem li_81_64 : il_81.lookup 64 = some (.if_icmp .ge 7, 67) := by decide +kernel
theorem bo_81_67_d1bdfd : ∀ e ∈ ([(67, .iconst 1, 68), (68, .goto 4, 71)] : List (Nat × Instr × Nat)), il_81.lookup e.1 = some e.2 := by decide +kernel
theorem bo_81_33_1dc721 : ∀ e ∈ ([(33, .istore_n 2, 34)] : List (Nat × Instr × Nat)), il_81.lookup e.1 = some e.2 := by decide +kernel
theorem bo_81_32_191034 : ∀ e ∈ ([(32, .iconst 0, 33)] : List (Nat × Instr × Nat)), il_81.lookup e.1 = some e.2 := by decide +kernel
theorem bo_81_0_264884 : ∀ e ∈ ([(0, .aload_n 0, 1), (1, .iconst 0, 2)] : List (Nat × Instr × Nat)), il_81.lookup e.1 = some e.2 := by decide +kernel
theorem li_81_2 : il_81.lookup 2 = some (.putfield 212, 5) := by decide +kernel
theorem bo_81_5_ca77c4 : ∀ e ∈ ([(5, .aload_n 0, 6), (6, .iconst 0, 7)] : List (Nat × Instr × Nat)), il_81.lookup e.1 = some e.2 := by decide +kernel
theorem li_81_7 : il_81.lookup 7 = some (.putfield 215, 10) := by decide +kernel
theorem bo_81_10_4b0123 : ∀ e ∈ ([(10, .iconst 0, 11), (11, .istore_n 1, 12), (12, .aload_n 0, 13)] : List (Nat × Instr × Nat)), il_81.lookup e.1 = some e.2 := by decide +kernel
theorem li_81_13 : il_81.lookup 13 = some (.getfield 208, 16) := by decide +kernel
theorem li_81_16 : il_81.lookup 16 = some (.ifCond .le 16, 19) := by decide +kernel
theorem bo_81_19_1a8444 : ∀ e ∈ ([(19, .aload_n 0, 20)] : List (Nat × Instr × Nat)), il_81.lookup e.1 = some e.2 := by decide +kernel
theorem li_81_20 : il_81.lookup 20 = some (.invokevirtual 219, 23) := by decide +kernel
theorem bo_81_23_b37e12 : ∀ e ∈ ([(23, .bipush 36, 25)] : List (Nat × Instr × Nat)), il_81.lookup e.1 = some e.2 := by decide +kernel
theorem li_81_25 : il_81.lookup 25 = some (.if_icmp .eq 7, 28) := by decide +kernel
theorem bo_81_28_533662 : ∀ e ∈ ([(28, .iconst 1, 29), (29, .goto 4, 32)] : List (Nat × Instr × Nat)), il_81.lookup e.1 = some e.2 := by decide +kernel
theorem bo_82_0_8d5162 : ∀ e ∈ ([(0, .aload_n 0, 1)] : List (Nat × Instr × Nat)), il_82.lookup e.1 = some e.2 := by decide +kernel
theorem li_82_1 : il_82.lookup 1 = some (.getfield 7, 4) := by decide +kernel
theorem bo_82_4_16e6de : ∀ e ∈ ([(4, .sipush 1000, 7), (7, .imul, 8), (8, .aload_n 0, 9)] : List (Nat × Instr × Nat)), il_82.lookup e.1 = some e.2 := by decide +kernel
theorem li_82_9 : il_82.lookup 9 = some (.getfield 13, 12) := by decide +kernel
theorem bo_82_12_5c947b : ∀ e ∈ ([(12, .bipush 100, 14), (14, .imul, 15), (15, .iadd, 16), (16, .aload_n 0, 17)] : List (Nat × Instr × Nat)), il_82.lookup e.1 = some e.2 := by decide +kernel
theorem li_82_17 : il_82.lookup 17 = some (.getfield 16, 20) := by decide +kernel
theorem bo_82_20_b53169 : ∀ e ∈ ([(20, .bipush 10, 22), (22, .imul, 23), (23, .iadd, 24), (24, .aload_n 0, 25)] : List (Nat × Instr × Nat)), il_82.lookup e.1 = some e.2 := by decide +kernel
theorem li_82_25 : il_82.lookup 25 = some (.getfield 19, 28) := by decide +kernel
theorem bo_82_28_f39cd0 : ∀ e ∈ ([(28, .iadd, 29)] : List (Nat × Instr × Nat)), il_82.lookup e.1 = some e.2 := by decide +kernel
theorem li_82_29 : il_82.lookup 29 = some (.ireturn, 30) := by decide +kernel
theorem bo_83_0_264884 : ∀ e ∈ ([(0, .aload_n 0, 1), (1, .iload_n 1, 2)] : List (Nat × Instr × Nat)), il_83.lookup e.1 = some e.2 := by decide +kernel
theorem li_83_2 : il_83.lookup 2 = some (.putfield 7, 5) := by decide +kernel
theorem bo_83_5_ca77c4 : ∀ e ∈ ([(5, .aload_n 0, 6), (6, .iload_n 2, 7)] : List (Nat × Instr × Nat)), il_83.lookup e.1 = some e.2 := by decide +kernel
theorem li_83_7 : il_83.lookup 7 = some (.putfield 13, 10) := by decide +kernel
theorem bo_83_10_42a704 : ∀ e ∈ ([(10, .aload_n 0, 11), (11, .iload_n 3, 12)] : List (Nat × Instr × Nat)), il_83.lookup e.1 = some e.2 := by decide +kernel
theorem li_83_12 : il_83.lookup 12 = some (.putfield 16, 15) := by decide +kernel
theorem bo_83_15_d45c32 : ∀ e ∈ ([(15, .aload_n 0, 16), (16, .iload 4, 18)] : List (Nat × Instr × Nat)), il_83.lookup e.1 = some e.2 := by decide +kernel
theorem li_83_18 : il_83.lookup 18 = some (.putfield 19, 21) := by decide +kernel
theorem li_83_21 : il_83.lookup 21 = some (.return_, 22) := by decide +kernel
theorem bo_84_0_264884 : ∀ e ∈ ([(0, .iload_n 1, 1), (1, .iconst 1, 2)] : List (Nat × Instr × Nat)), il_84.lookup e.1 = some e.2 := by decide +kernel
theorem li_84_2 : il_84.lookup 2 = some (.if_icmp .lt 19, 5) := by decide +kernel
theorem bo_84_21_46c79c : ∀ e ∈ ([(21, .ldc 51, 23)] : List (Nat × Instr × Nat)), il_84.lookup e.1 = some e.2 := by decide +kernel
theorem li_84_23 : il_84.lookup 23 = some (.ireturn, 24) := by decide +kernel
theorem bo_84_5_ca77c4 : ∀ e ∈ ([(5, .iload_n 1, 6), (6, .iconst 4, 7)] : List (Nat × Instr × Nat)), il_84.lookup e.1 = some e.2 := by decide +kernel
theorem li_84_7 : il_84.lookup 7 = some (.if_icmp .gt 14, 10) := by decide +kernel
theorem bo_84_10_42a704 : ∀ e ∈ ([(10, .iload_n 2, 11), (11, .iconst 1, 12)] : List (Nat × Instr × Nat)), il_84.lookup e.1 = some e.2 := by decide +kernel
theorem li_84_12 : il_84.lookup 12 = some (.if_icmp .lt 9, 15) := by decide +kernel
theorem bo_84_15_d45c32 : ∀ e ∈ ([(15, .iload_n 2, 16), (16, .bipush 9, 18)] : List (Nat × Instr × Nat)), il_84.lookup e.1 = some e.2 := by decide +kernel
theorem li_84_18 : il_84.lookup 18 = some (.if_icmp .le 6, 21) := by decide +kernel
theorem bo_84_24_35ae4e : ∀ e ∈ ([(24, .iload_n 3, 25), (25, .iconst 2, 26)] : List (Nat × Instr × Nat)), il_84.lookup e.1 = some e.2 := by decide +kernel
theorem li_84_26 : il_84.lookup 26 = some (.if_icmp .lt 20, 29) := by decide +kernel
theorem bo_84_46_4b02d4 : ∀ e ∈ ([(46, .ldc 51, 48)] : List (Nat × Instr × Nat)), il_84.lookup e.1 = some e.2 := by decide +kernel
theorem li_84_48 : il_84.lookup 48 = some (.ireturn, 49) := by decide +kernel
theorem bo_84_29_2746c1 : ∀ e ∈ ([(29, .iload_n 3, 30), (30, .iconst 4, 31)] : List (Nat × Instr × Nat)), il_84.lookup e.1 = some e.2 := by decide +kernel
theorem li_84_31 : il_84.lookup 31 = some (.if_icmp .gt 15, 34) := by decide +kernel
theorem bo_84_34_f27b23 : ∀ e ∈ ([(34, .iload 4, 36), (36, .iconst 1, 37)] : List (Nat × Instr × Nat)), il_84.lookup e.1 = some e.2 := by decide +kernel
theorem li_84_37 : il_84.lookup 37 = some (.if_icmp .lt 9, 40) := by decide +kernel
theorem bo_84_40_ddfaee : ∀ e ∈ ([(40, .iload 4, 42), (42, .iconst 5, 43)] : List (Nat × Instr × Nat)), il_84.lookup e.1 = some e.2 := by decide +kernel
theorem li_84_43 : il_84.lookup 43 = some (.if_icmp .le 6, 46) := by decide +kernel
theorem bo_84_49_e052b7 : ∀ e ∈ ([(49, .aload_n 0, 50)] : List (Nat × Instr × Nat)), il_84.lookup e.1 = some e.2 := by decide +kernel
theorem li_84_50 : il_84.lookup 50 = some (.getfield 31, 53) := by decide +kernel
theorem li_84_53 : il_84.lookup 53 = some (.getfield 83, 56) := by decide +kernel
theorem li_84_56 : il_84.lookup 56 = some (.ifCond .eq 6, 59) := by decide +kernel
theorem bo_84_62_13a257 : ∀ e ∈ ([(62, .aload_n 0, 63)] : List (Nat × Instr × Nat)), il_84.lookup e.1 = some e.2 := by decide +kernel
theorem li_84_63 : il_84.lookup 63 = some (.getfield 31, 66) := by decide +kernel
theorem li_84_66 : il_84.lookup 66 = some (.getfield 88, 69) := by decide +kernel
theorem li_84_69 : il_84.lookup 69 = some (.invokevirtual 92, 72) := by decide +kernel
theorem bo_84_72_9ed66b : ∀ e ∈ ([(72, .istore 5, 74), (74, .aload_n 0, 75)] : List (Nat × Instr × Nat)), il_84.lookup e.1 = some e.2 := by decide +kernel
theorem li_84_75 : il_84.lookup 75 = some (.getfield 31, 78) := by decide +kernel
theorem li_84_78 : il_84.lookup 78 = some (.getfield 88, 81) := by decide +kernel
theorem bo_84_81_c5ce3b : ∀ e ∈ ([(81, .iload_n 1, 82), (82, .iload_n 2, 83), (83, .iload_n 3, 84), (84, .iload 4, 86)] : List (Nat × Instr × Nat)), il_84.lookup e.1 = some e.2 := by decide +kernel
theorem li_84_86 : il_84.lookup 86 = some (.invokevirtual 97, 89) := by decide +kernel
theorem bo_84_89_bbca9b : ∀ e ∈ ([(89, .iload 5, 91)] : List (Nat × Instr × Nat)), il_84.lookup e.1 = some e.2 := by decide +kernel
theorem li_84_91 : il_84.lookup 91 = some (.ireturn, 92) := by decide +kernel
theorem bo_84_59_8c3b95 : ∀ e ∈ ([(59, .ldc 87, 61)] : List (Nat × Instr × Nat)), il_84.lookup e.1 = some e.2 := by decide +kernel
theorem li_84_61 : il_84.lookup 61 = some (.ireturn, 62) := by decide +kernel
theorem bo_85_0_8b3750 : ∀ e ∈ ([(0, .iload_n 1, 1), (1, .iconst 1, 2), (2, .iconst 4, 3)] : List (Nat × Instr × Nat)), il_85.lookup e.1 = some e.2 := by decide +kernel
theorem li_85_3 : il_85.lookup 3 = some (.invokestatic 203, 6) := by decide +kernel
theorem li_85_6 : il_85.lookup 6 = some (.ifCond .eq 32, 9) := by decide +kernel
theorem bo_85_38_c8c763 : ∀ e ∈ ([(38, .ldc 207, 40)] : List (Nat × Instr × Nat)), il_85.lookup e.1 = some e.2 := by decide +kernel
theorem li_85_40 : il_85.lookup 40 = some (.ireturn, 41) := by decide +kernel
theorem bo_85_9_94b225 : ∀ e ∈ ([(9, .iload_n 2, 10), (10, .iconst 1, 11), (11, .bipush 9, 13)] : List (Nat × Instr × Nat)), il_85.lookup e.1 = some e.2 := by decide +kernel
theorem li_85_13 : il_85.lookup 13 = some (.invokestatic 203, 16) := by decide +kernel
theorem li_85_16 : il_85.lookup 16 = some (.ifCond .eq 22, 19) := by decide +kernel
theorem bo_85_19_7f125f : ∀ e ∈ ([(19, .iload_n 3, 20), (20, .iconst 2, 21), (21, .iconst 4, 22)] : List (Nat × Instr × Nat)), il_85.lookup e.1 = some e.2 := by decide +kernel
theorem li_85_22 : il_85.lookup 22 = some (.invokestatic 203, 25) := by decide +kernel
theorem li_85_25 : il_85.lookup 25 = some (.ifCond .eq 13, 28) := by decide +kernel
theorem bo_85_28_5b3148 : ∀ e ∈ ([(28, .iload 4, 30), (30, .iconst 1, 31), (31, .iconst 5, 32)] : List (Nat × Instr × Nat)), il_85.lookup e.1 = some e.2 := by decide +kernel
theorem li_85_32 : il_85.lookup 32 = some (.invokestatic 203, 35) := by decide +kernel
theorem li_85_35 : il_85.lookup 35 = some (.ifCond .ne 6, 38) := by decide +kernel
theorem bo_85_41_45abaf : ∀ e ∈ ([(41, .aload_n 0, 42)] : List (Nat × Instr × Nat)), il_85.lookup e.1 = some e.2 := by decide +kernel
theorem li_85_42 : il_85.lookup 42 = some (.getfield 259, 45) := by decide +kernel
theorem li_85_45 : il_85.lookup 45 = some (.ifCond .eq 7, 48) := by decide +kernel
theorem bo_85_52_ee2563 : ∀ e ∈ ([(52, .sipush 1000, 55), (55, .aload_n 0, 56)] : List (Nat × Instr × Nat)), il_85.lookup e.1 = some e.2 := by decide +kernel
theorem li_85_56 : il_85.lookup 56 = some (.getfield 25, 59) := by decide +kernel
theorem bo_85_59_e1a4dd : ∀ e ∈ ([(59, .imul, 60), (60, .bipush 100, 62), (62, .aload_n 0, 63)] : List (Nat × Instr × Nat)), il_85.lookup e.1 = some e.2 := by decide +kernel
theorem li_85_63 : il_85.lookup 63 = some (.getfield 29, 66) := by decide +kernel
theorem bo_85_66_b08ba8 : ∀ e ∈ ([(66, .imul, 67), (67, .iadd, 68), (68, .bipush 10, 70), (70, .aload_n 0, 71)] : List (Nat × Instr × Nat)), il_85.lookup e.1 = some e.2 := by decide +kernel
theorem li_85_71 : il_85.lookup 71 = some (.getfield 32, 74) := by decide +kernel
theorem bo_85_74_b771ca : ∀ e ∈ ([(74, .imul, 75), (75, .iadd, 76), (76, .aload_n 0, 77)] : List (Nat × Instr × Nat)), il_85.lookup e.1 = some e.2 := by decide +kernel
theorem li_85_77 : il_85.lookup 77 = some (.getfield 35, 80) := by decide +kernel
theorem bo_85_80_dd6aee : ∀ e ∈ ([(80, .iadd, 81), (81, .istore 5, 83), (83, .aload_n 0, 84), (84, .iload_n 1, 85)] : List (Nat × Instr × Nat)), il_85.lookup e.1 = some e.2 := by decide +kernel
theorem li_85_85 : il_85.lookup 85 = some (.putfield 25, 88) := by decide +kernel
theorem bo_85_88_700d2f : ∀ e ∈ ([(88, .aload_n 0, 89), (89, .iload_n 2, 90)] : List (Nat × Instr × Nat)), il_85.lookup e.1 = some e.2 := by decide +kernel
theorem li_85_90 : il_85.lookup 90 = some (.putfield 29, 93) := by decide +kernel
theorem bo_85_93_aa3b03 : ∀ e ∈ ([(93, .aload_n 0, 94), (94, .iload_n 3, 95)] : List (Nat × Instr × Nat)), il_85.lookup e.1 = some e.2 := by decide +kernel
theorem li_85_95 : il_85.lookup 95 = some (.putfield 32, 98) := by decide +kernel
theorem bo_85_98_51a86b : ∀ e ∈ ([(98, .aload_n 0, 99), (99, .iload 4, 101)] : List (Nat × Instr × Nat)), il_85.lookup e.1 = some e.2 := by decide +kernel
theorem li_85_101 : il_85.lookup 101 = some (.putfield 35, 104) := by decide +kernel
theorem bo_85_104_a38d21 : ∀ e ∈ ([(104, .iload 5, 106)] : List (Nat × Instr × Nat)), il_85.lookup e.1 = some e.2 := by decide +kernel
theorem li_85_106 : il_85.lookup 106 = some (.ireturn, 107) := by decide +kernel
theorem bo_85_48_04c55a : ∀ e ∈ ([(48, .ldc_w 274, 51)] : List (Nat × Instr × Nat)), il_85.lookup e.1 = some e.2 := by decide +kernel
theorem li_85_51 : il_85.lookup 51 = some (.ireturn, 52) := by decide +kernel
theorem bo_86_0_8d5162 : ∀ e ∈ ([(0, .aload_n 0, 1)] : List (Nat × Instr × Nat)), il_86.lookup e.1 = some e.2 := by decide +kernel
theorem li_86_1 : il_86.lookup 1 = some (.getfield 23, 4) := by decide +kernel
theorem bo_86_4_e962e2 : ∀ e ∈ ([(4, .aload_n 0, 5)] : List (Nat × Instr × Nat)), il_86.lookup e.1 = some e.2 := by decide +kernel
theorem li_86_5 : il_86.lookup 5 = some (.getfield 19, 8) := by decide +kernel
theorem li_86_8 : il_86.lookup 8 = some (.if_icmp .le 4, 11) := by decide +kernel
theorem bo_86_12_d0d0c9 : ∀ e ∈ ([(12, .aload_n 0, 13)] : List (Nat × Instr × Nat)), il_86.lookup e.1 = some e.2 := by decide +kernel
theorem li_86_13 : il_86.lookup 13 = some (.getfield 26, 16) := by decide +kernel
theorem bo_86_16_862b1a : ∀ e ∈ ([(16, .aload_n 0, 17)] : List (Nat × Instr × Nat)), il_86.lookup e.1 = some e.2 := by decide +kernel
theorem li_86_17 : il_86.lookup 17 = some (.getfield 23, 20) := by decide +kernel
theorem bo_86_20_aa2fda : ∀ e ∈ ([(20, .iadd, 21), (21, .aload_n 0, 22)] : List (Nat × Instr × Nat)), il_86.lookup e.1 = some e.2 := by decide +kernel
theorem li_86_22 : il_86.lookup 22 = some (.getfield 19, 25) := by decide +kernel
theorem bo_86_25_a40845 : ∀ e ∈ ([(25, .iand, 26), (26, .istore 4, 28), (28, .aload_n 0, 29)] : List (Nat × Instr × Nat)), il_86.lookup e.1 = some e.2 := by decide +kernel
theorem li_86_29 : il_86.lookup 29 = some (.getfield 7, 32) := by decide +kernel
theorem bo_86_32_e72a93 : ∀ e ∈ ([(32, .iload 4, 34), (34, .iload_n 1, 35)] : List (Nat × Instr × Nat)), il_86.lookup e.1 = some e.2 := by decide +kernel
theorem li_86_35 : il_86.lookup 35 = some (.iastore, 36) := by decide +kernel
theorem bo_86_36_befed3 : ∀ e ∈ ([(36, .aload_n 0, 37)] : List (Nat × Instr × Nat)), il_86.lookup e.1 = some e.2 := by decide +kernel
theorem li_86_37 : il_86.lookup 37 = some (.getfield 13, 40) := by decide +kernel
theorem bo_86_40_ddfaee : ∀ e ∈ ([(40, .iload 4, 42), (42, .iload_n 2, 43)] : List (Nat × Instr × Nat)), il_86.lookup e.1 = some e.2 := by decide +kernel
theorem li_86_43 : il_86.lookup 43 = some (.iastore, 44) := by decide +kernel
theorem bo_86_44_56c0aa : ∀ e ∈ ([(44, .aload_n 0, 45)] : List (Nat × Instr × Nat)), il_86.lookup e.1 = some e.2 := by decide +kernel
theorem li_86_45 : il_86.lookup 45 = some (.getfield 16, 48) := by decide +kernel
theorem bo_86_48_ef5aec : ∀ e ∈ ([(48, .iload 4, 50), (50, .iload_n 3, 51)] : List (Nat × Instr × Nat)), il_86.lookup e.1 = some e.2 := by decide +kernel
theorem li_86_51 : il_86.lookup 51 = some (.iastore, 52) := by decide +kernel
theorem bo_86_52_9f6391 : ∀ e ∈ ([(52, .aload_n 0, 53), (53, .dup, 54)] : List (Nat × Instr × Nat)), il_86.lookup e.1 = some e.2 := by decide +kernel
theorem li_86_54 : il_86.lookup 54 = some (.getfield 23, 57) := by decide +kernel
theorem bo_86_57_1292c4 : ∀ e ∈ ([(57, .iconst 1, 58), (58, .iadd, 59)] : List (Nat × Instr × Nat)), il_86.lookup e.1 = some e.2 := by decide +kernel
theorem li_86_59 : il_86.lookup 59 = some (.putfield 23, 62) := by decide +kernel
theorem li_86_62 : il_86.lookup 62 = some (.return_, 63) := by decide +kernel
theorem li_86_11 : il_86.lookup 11 = some (.return_, 12) := by decide +kernel
theorem bo_87_0_8d5162 : ∀ e ∈ ([(0, .iload_n 1, 1)] : List (Nat × Instr × Nat)), il_87.lookup e.1 = some e.2 := by decide +kernel
theorem li_87_1 : il_87.lookup 1 = some (.ifCond .lt 21, 4) := by decide +kernel
theorem bo_87_22_60ac31 : ∀ e ∈ ([(22, .ldc 51, 24)] : List (Nat × Instr × Nat)), il_87.lookup e.1 = some e.2 := by decide +kernel
theorem li_87_24 : il_87.lookup 24 = some (.ireturn, 25) := by decide +kernel
theorem bo_87_4_40e659 : ∀ e ∈ ([(4, .iload_n 1, 5), (5, .bipush 16, 7)] : List (Nat × Instr × Nat)), il_87.lookup e.1 = some e.2 := by decide +kernel
theorem li_87_7 : il_87.lookup 7 = some (.if_icmp .ge 15, 10) := by decide +kernel
theorem bo_87_10_42a704 : ∀ e ∈ ([(10, .iload_n 2, 11), (11, .bipush (-99), 13)] : List (Nat × Instr × Nat)), il_87.lookup e.1 = some e.2 := by decide +kernel
theorem li_87_13 : il_87.lookup 13 = some (.if_icmp .lt 9, 16) := by decide +kernel
theorem bo_87_16_f4f9fa : ∀ e ∈ ([(16, .iload_n 2, 17), (17, .bipush 99, 19)] : List (Nat × Instr × Nat)), il_87.lookup e.1 = some e.2 := by decide +kernel
theorem li_87_19 : il_87.lookup 19 = some (.if_icmp .le 6, 22) := by decide +kernel
theorem bo_87_25_1858f6 : ∀ e ∈ ([(25, .aload_n 0, 26)] : List (Nat × Instr × Nat)), il_87.lookup e.1 = some e.2 := by decide +kernel
theorem li_87_26 : il_87.lookup 26 = some (.getfield 31, 29) := by decide +kernel
theorem li_87_29 : il_87.lookup 29 = some (.getfield 101, 32) := by decide +kernel
theorem li_87_32 : il_87.lookup 32 = some (.getfield 105, 35) := by decide +kernel
theorem bo_87_35_a976ef : ∀ e ∈ ([(35, .bipush 60, 37)] : List (Nat × Instr × Nat)), il_87.lookup e.1 = some e.2 := by decide +kernel
theorem li_87_37 : il_87.lookup 37 = some (.if_icmp .lt 6, 40) := by decide +kernel
theorem bo_87_43_d85b47 : ∀ e ∈ ([(43, .aload_n 0, 44)] : List (Nat × Instr × Nat)), il_87.lookup e.1 = some e.2 := by decide +kernel
theorem li_87_44 : il_87.lookup 44 = some (.getfield 31, 47) := by decide +kernel
theorem li_87_47 : il_87.lookup 47 = some (.getfield 101, 50) := by decide +kernel
theorem bo_87_50_678706 : ∀ e ∈ ([(50, .iload_n 1, 51), (51, .iload_n 2, 52), (52, .iconst 0, 53)] : List (Nat × Instr × Nat)), il_87.lookup e.1 = some e.2 := by decide +kernel
theorem li_87_53 : il_87.lookup 53 = some (.invokevirtual 110, 56) := by decide +kernel
theorem bo_87_56_350148 : ∀ e ∈ ([(56, .aload_n 0, 57)] : List (Nat × Instr × Nat)), il_87.lookup e.1 = some e.2 := by decide +kernel
theorem li_87_57 : il_87.lookup 57 = some (.getfield 31, 60) := by decide +kernel
theorem li_87_60 : il_87.lookup 60 = some (.getfield 101, 63) := by decide +kernel
theorem li_87_63 : il_87.lookup 63 = some (.getfield 105, 66) := by decide +kernel
theorem li_87_66 : il_87.lookup 66 = some (.ireturn, 67) := by decide +kernel
theorem bo_87_40_d0cc5b : ∀ e ∈ ([(40, .ldc 56, 42)] : List (Nat × Instr × Nat)), il_87.lookup e.1 = some e.2 := by decide +kernel
theorem li_87_42 : il_87.lookup 42 = some (.ireturn, 43) := by decide +kernel
theorem bo_88_0_8b3750 : ∀ e ∈ ([(0, .iload_n 1, 1), (1, .iconst 0, 2), (2, .bipush 15, 4)] : List (Nat × Instr × Nat)), il_88.lookup e.1 = some e.2 := by decide +kernel
theorem li_88_4 : il_88.lookup 4 = some (.invokestatic 203, 7) := by decide +kernel
theorem li_88_7 : il_88.lookup 7 = some (.ifCond .eq 14, 10) := by decide +kernel
theorem bo_88_21_46c79c : ∀ e ∈ ([(21, .ldc 207, 23)] : List (Nat × Instr × Nat)), il_88.lookup e.1 = some e.2 := by decide +kernel
theorem li_88_23 : il_88.lookup 23 = some (.ireturn, 24) := by decide +kernel
theorem bo_88_10_be432a : ∀ e ∈ ([(10, .iload_n 2, 11), (11, .bipush (-99), 13), (13, .bipush 99, 15)] : List (Nat × Instr × Nat)), il_88.lookup e.1 = some e.2 := by decide +kernel
theorem li_88_15 : il_88.lookup 15 = some (.invokestatic 203, 18) := by decide +kernel
theorem li_88_18 : il_88.lookup 18 = some (.ifCond .ne 6, 21) := by decide +kernel
theorem bo_88_24_99aa1d : ∀ e ∈ ([(24, .aload_n 0, 25)] : List (Nat × Instr × Nat)), il_88.lookup e.1 = some e.2 := by decide +kernel
theorem li_88_25 : il_88.lookup 25 = some (.getfield 275, 28) := by decide +kernel
theorem bo_88_28_f39cd0 : ∀ e ∈ ([(28, .bipush 60, 30)] : List (Nat × Instr × Nat)), il_88.lookup e.1 = some e.2 := by decide +kernel
theorem li_88_30 : il_88.lookup 30 = some (.if_icmp .ne 6, 33) := by decide +kernel
theorem bo_88_36_befed3 : ∀ e ∈ ([(36, .aload_n 0, 37)] : List (Nat × Instr × Nat)), il_88.lookup e.1 = some e.2 := by decide +kernel
theorem li_88_37 : il_88.lookup 37 = some (.getfield 38, 40) := by decide +kernel
theorem bo_88_40_d0cc5b : ∀ e ∈ ([(40, .aload_n 0, 41)] : List (Nat × Instr × Nat)), il_88.lookup e.1 = some e.2 := by decide +kernel
theorem li_88_41 : il_88.lookup 41 = some (.getfield 275, 44) := by decide +kernel
theorem bo_88_44_56c0aa : ∀ e ∈ ([(44, .iload_n 1, 45)] : List (Nat × Instr × Nat)), il_88.lookup e.1 = some e.2 := by decide +kernel
theorem li_88_45 : il_88.lookup 45 = some (.iastore, 46) := by decide +kernel
theorem bo_88_46_4b02d4 : ∀ e ∈ ([(46, .aload_n 0, 47)] : List (Nat × Instr × Nat)), il_88.lookup e.1 = some e.2 := by decide +kernel
theorem li_88_47 : il_88.lookup 47 = some (.getfield 41, 50) := by decide +kernel
theorem bo_88_50_8a8783 : ∀ e ∈ ([(50, .aload_n 0, 51)] : List (Nat × Instr × Nat)), il_88.lookup e.1 = some e.2 := by decide +kernel
theorem li_88_51 : il_88.lookup 51 = some (.getfield 275, 54) := by decide +kernel
theorem bo_88_54_02ca38 : ∀ e ∈ ([(54, .iload_n 2, 55)] : List (Nat × Instr × Nat)), il_88.lookup e.1 = some e.2 := by decide +kernel
theorem li_88_55 : il_88.lookup 55 = some (.iastore, 56) := by decide +kernel
theorem bo_88_56_ba4435 : ∀ e ∈ ([(56, .aload_n 0, 57), (57, .dup, 58)] : List (Nat × Instr × Nat)), il_88.lookup e.1 = some e.2 := by decide +kernel
theorem li_88_58 : il_88.lookup 58 = some (.getfield 275, 61) := by decide +kernel
theorem bo_88_61_cd5945 : ∀ e ∈ ([(61, .iconst 1, 62), (62, .iadd, 63)] : List (Nat × Instr × Nat)), il_88.lookup e.1 = some e.2 := by decide +kernel
theorem li_88_63 : il_88.lookup 63 = some (.putfield 275, 66) := by decide +kernel
theorem bo_88_66_831ba3 : ∀ e ∈ ([(66, .aload_n 0, 67)] : List (Nat × Instr × Nat)), il_88.lookup e.1 = some e.2 := by decide +kernel
theorem li_88_67 : il_88.lookup 67 = some (.getfield 275, 70) := by decide +kernel
theorem li_88_70 : il_88.lookup 70 = some (.ireturn, 71) := by decide +kernel
theorem bo_88_33_1dc721 : ∀ e ∈ ([(33, .ldc 211, 35)] : List (Nat × Instr × Nat)), il_88.lookup e.1 = some e.2 := by decide +kernel
theorem li_88_35 : il_88.lookup 35 = some (.ireturn, 36) := by decide +kernel
theorem bo_89_0_8d5162 : ∀ e ∈ ([(0, .aload_n 0, 1)] : List (Nat × Instr × Nat)), il_89.lookup e.1 = some e.2 := by decide +kernel
theorem li_89_1 : il_89.lookup 1 = some (.getfield 26, 4) := by decide +kernel
theorem li_89_4 : il_89.lookup 4 = some (.ifCond .ne 14, 7) := by decide +kernel
theorem bo_89_18_2b31d8 : ∀ e ∈ ([(18, .iconst 0, 19)] : List (Nat × Instr × Nat)), il_89.lookup e.1 = some e.2 := by decide +kernel
theorem li_89_19 : il_89.lookup 19 = some (.ireturn, 20) := by decide +kernel
theorem bo_89_7_9b264f : ∀ e ∈ ([(7, .aload_n 0, 8)] : List (Nat × Instr × Nat)), il_89.lookup e.1 = some e.2 := by decide +kernel
theorem li_89_8 : il_89.lookup 8 = some (.getfield 35, 11) := by decide +kernel
theorem li_89_11 : il_89.lookup 11 = some (.ifCond .ne 7, 14) := by decide +kernel
theorem bo_89_14_4d7356 : ∀ e ∈ ([(14, .iconst 1, 15), (15, .goto 4, 18)] : List (Nat × Instr × Nat)), il_89.lookup e.1 = some e.2 := by decide +kernel
theorem bo_90_0_264884 : ∀ e ∈ ([(0, .aload_n 0, 1), (1, .iload_n 1, 2)] : List (Nat × Instr × Nat)), il_90.lookup e.1 = some e.2 := by decide +kernel
theorem li_90_2 : il_90.lookup 2 = some (.invokevirtual 54, 5) := by decide +kernel
theorem bo_90_5_a49024 : ∀ e ∈ ([(5, .astore_n 2, 6), (6, .aload_n 2, 7), (7, .ifnonnull 7, 10), (10, .iconst 0, 11), (11, .goto 7, 14)] : List (Nat × Instr × Nat)), il_90.lookup e.1 = some e.2 := by decide +kernel
theorem li_90_18 : il_90.lookup 18 = some (.ireturn, 19) := by decide +kernel
theorem bo_90_5_10cc4b : ∀ e ∈ ([(5, .astore_n 2, 6), (6, .aload_n 2, 7), (7, .ifnonnull 7, 10), (14, .aload_n 2, 15)] : List (Nat × Instr × Nat)), il_90.lookup e.1 = some e.2 := by decide +kernel
theorem li_90_15 : il_90.lookup 15 = some (.getfield 58, 18) := by decide +kernel
theorem bo_91_0_264884 : ∀ e ∈ ([(0, .aload_n 0, 1), (1, .iload_n 1, 2)] : List (Nat × Instr × Nat)), il_91.lookup e.1 = some e.2 := by decide +kernel
theorem li_91_2 : il_91.lookup 2 = some (.invokevirtual 54, 5) := by decide +kernel
theorem bo_91_5_cae9af : ∀ e ∈ ([(5, .astore_n 3, 6), (6, .aload_n 3, 7), (7, .ifnull 24, 10), (31, .aconst_null, 32)] : List (Nat × Instr × Nat)), il_91.lookup e.1 = some e.2 := by decide +kernel
theorem li_91_32 : il_91.lookup 32 = some (.areturn, 33) := by decide +kernel
theorem bo_91_5_556fca : ∀ e ∈ ([(5, .astore_n 3, 6), (6, .aload_n 3, 7), (7, .ifnull 24, 10), (10, .iload_n 2, 11)] : List (Nat × Instr × Nat)), il_91.lookup e.1 = some e.2 := by decide +kernel
theorem li_91_11 : il_91.lookup 11 = some (.ifCond .lt 20, 14) := by decide +kernel
theorem bo_91_31_c379e3 : ∀ e ∈ ([(31, .aconst_null, 32)] : List (Nat × Instr × Nat)), il_91.lookup e.1 = some e.2 := by decide +kernel
theorem bo_91_14_4d7356 : ∀ e ∈ ([(14, .iload_n 2, 15), (15, .aload_n 3, 16)] : List (Nat × Instr × Nat)), il_91.lookup e.1 = some e.2 := by decide +kernel
theorem li_91_16 : il_91.lookup 16 = some (.getfield 58, 19) := by decide +kernel
theorem li_91_19 : il_91.lookup 19 = some (.if_icmp .ge 12, 22) := by decide +kernel
theorem bo_91_22_13b32e : ∀ e ∈ ([(22, .iload_n 2, 23), (23, .aload_n 3, 24)] : List (Nat × Instr × Nat)), il_91.lookup e.1 = some e.2 := by decide +kernel
theorem li_91_24 : il_91.lookup 24 = some (.getfield 61, 27) := by decide +kernel
theorem li_91_27 : il_91.lookup 27 = some (.arraylength, 28) := by decide +kernel
theorem li_91_28 : il_91.lookup 28 = some (.if_icmp .lt 5, 31) := by decide +kernel
theorem bo_91_33_1dc721 : ∀ e ∈ ([(33, .aload_n 3, 34)] : List (Nat × Instr × Nat)), il_91.lookup e.1 = some e.2 := by decide +kernel
theorem li_91_34 : il_91.lookup 34 = some (.getfield 61, 37) := by decide +kernel
theorem bo_91_37_a21c9f : ∀ e ∈ ([(37, .iload_n 2, 38)] : List (Nat × Instr × Nat)), il_91.lookup e.1 = some e.2 := by decide +kernel
theorem li_91_38 : il_91.lookup 38 = some (.aaload, 39) := by decide +kernel
theorem li_91_39 : il_91.lookup 39 = some (.areturn, 40) := by decide +kernel
theorem bo_92_51_8daec0 : ∀ e ∈ ([(51, .iadd, 52), (52, .istore_n 1, 53), (53, .iinc 3 1, 56), (56, .goto (-40), 59)] : List (Nat × Instr × Nat)), il_92.lookup e.1 = some e.2 := by decide +kernel
theorem bo_92_16_91f0a1 : ∀ e ∈ ([(16, .iload_n 3, 17), (17, .aload_n 0, 18), (18, .iload_n 2, 19)] : List (Nat × Instr × Nat)), il_92.lookup e.1 = some e.2 := by decide +kernel
theorem li_92_19 : il_92.lookup 19 = some (.invokevirtual 129, 22) := by decide +kernel
theorem li_92_22 : il_92.lookup 22 = some (.if_icmp .ge 37, 25) := by decide +kernel
theorem bo_92_59_84f730 : ∀ e ∈ ([(59, .iinc 2 1, 62), (62, .goto (-58), 65)] : List (Nat × Instr × Nat)), il_92.lookup e.1 = some e.2 := by decide +kernel
theorem bo_92_25_43ea85 : ∀ e ∈ ([(25, .aload_n 0, 26), (26, .iload_n 2, 27), (27, .iload_n 3, 28)] : List (Nat × Instr × Nat)), il_92.lookup e.1 = some e.2 := by decide +kernel
theorem li_92_28 : il_92.lookup 28 = some (.invokevirtual 141, 31) := by decide +kernel
theorem bo_92_31_43dc4e : ∀ e ∈ ([(31, .astore 4, 33), (33, .iload_n 1, 34), (34, .aload 4, 36), (36, .ifnonnull 7, 39), (39, .iconst 0, 40), (40, .goto 11, 43)] : List (Nat × Instr × Nat)), il_92.lookup e.1 = some e.2 := by decide +kernel
theorem bo_92_31_2337cd : ∀ e ∈ ([(31, .astore 4, 33), (33, .iload_n 1, 34), (34, .aload 4, 36), (36, .ifnonnull 7, 39), (43, .aload 4, 45)] : List (Nat × Instr × Nat)), il_92.lookup e.1 = some e.2 := by decide +kernel
theorem li_92_45 : il_92.lookup 45 = some (.getfield 168, 48) := by decide +kernel
theorem li_92_48 : il_92.lookup 48 = some (.getfield 156, 51) := by decide +kernel
theorem bo_92_4_40e659 : ∀ e ∈ ([(4, .iload_n 2, 5), (5, .aload_n 0, 6)] : List (Nat × Instr × Nat)), il_92.lookup e.1 = some e.2 := by decide +kernel
theorem li_92_6 : il_92.lookup 6 = some (.getfield 50, 9) := by decide +kernel
theorem bo_92_9_16efa2 : ∀ e ∈ ([(9, .iconst 1, 10), (10, .iadd, 11)] : List (Nat × Instr × Nat)), il_92.lookup e.1 = some e.2 := by decide +kernel
theorem li_92_11 : il_92.lookup 11 = some (.if_icmp .gt 54, 14) := by decide +kernel
theorem bo_92_65_a2326b : ∀ e ∈ ([(65, .iload_n 1, 66)] : List (Nat × Instr × Nat)), il_92.lookup e.1 = some e.2 := by decide +kernel
theorem li_92_66 : il_92.lookup 66 = some (.ireturn, 67) := by decide +kernel
theorem bo_92_14_4d7356 : ∀ e ∈ ([(14, .iconst 0, 15), (15, .istore_n 3, 16)] : List (Nat × Instr × Nat)), il_92.lookup e.1 = some e.2 := by decide +kernel
theorem bo_92_0_5a4d31 : ∀ e ∈ ([(0, .iconst 0, 1), (1, .istore_n 1, 2), (2, .iconst 0, 3), (3, .istore_n 2, 4)] : List (Nat × Instr × Nat)), il_92.lookup e.1 = some e.2 := by decide +kernel
theorem bo_93_58_25b6ca : ∀ e ∈ ([(58, .iinc 3 1, 61), (61, .goto (-28), 64)] : List (Nat × Instr × Nat)), il_93.lookup e.1 = some e.2 := by decide +kernel
theorem bo_93_33_9ed66c : ∀ e ∈ ([(33, .iload_n 3, 34), (34, .iload_n 2, 35)] : List (Nat × Instr × Nat)), il_93.lookup e.1 = some e.2 := by decide +kernel
theorem li_93_35 : il_93.lookup 35 = some (.if_icmp .ge 29, 38) := by decide +kernel
theorem bo_93_64_446f01 : ∀ e ∈ ([(64, .aload_n 0, 65)] : List (Nat × Instr × Nat)), il_93.lookup e.1 = some e.2 := by decide +kernel
theorem li_93_65 : il_93.lookup 65 = some (.invokevirtual 161, 68) := by decide +kernel
theorem li_93_68 : il_93.lookup 68 = some (.ifCond .ne 7, 71) := by decide +kernel
theorem bo_93_75_1f1f88 : ∀ e ∈ ([(75, .iconst 0, 76)] : List (Nat × Instr × Nat)), il_93.lookup e.1 = some e.2 := by decide +kernel
theorem li_93_76 : il_93.lookup 76 = some (.ireturn, 77) := by decide +kernel
theorem bo_93_71_0bf829 : ∀ e ∈ ([(71, .iconst 1, 72), (72, .goto 4, 75)] : List (Nat × Instr × Nat)), il_93.lookup e.1 = some e.2 := by decide +kernel
theorem bo_93_38_ef227d : ∀ e ∈ ([(38, .aload_n 1, 39), (39, .iload_n 3, 40)] : List (Nat × Instr × Nat)), il_93.lookup e.1 = some e.2 := by decide +kernel
theorem li_93_40 : il_93.lookup 40 = some (.aaload, 41) := by decide +kernel
theorem bo_93_41_ff2b81 : ∀ e ∈ ([(41, .astore 4, 43), (43, .aload 4, 45), (45, .ifnull 13, 48), (48, .aload 4, 50)] : List (Nat × Instr × Nat)), il_93.lookup e.1 = some e.2 := by decide +kernel
theorem li_93_50 : il_93.lookup 50 = some (.invokevirtual 157, 53) := by decide +kernel
theorem li_93_53 : il_93.lookup 53 = some (.ifCond .ne 5, 56) := by decide +kernel
theorem bo_93_56_350148 : ∀ e ∈ ([(56, .iconst 0, 57)] : List (Nat × Instr × Nat)), il_93.lookup e.1 = some e.2 := by decide +kernel
theorem li_93_57 : il_93.lookup 57 = some (.ireturn, 58) := by decide +kernel
theorem bo_93_0_8d5162 : ∀ e ∈ ([(0, .aload_n 0, 1)] : List (Nat × Instr × Nat)), il_93.lookup e.1 = some e.2 := by decide +kernel
theorem li_93_1 : il_93.lookup 1 = some (.getfield 135, 4) := by decide +kernel
theorem bo_93_4_e962e2 : ∀ e ∈ ([(4, .aload_n 0, 5)] : List (Nat × Instr × Nat)), il_93.lookup e.1 = some e.2 := by decide +kernel
theorem li_93_5 : il_93.lookup 5 = some (.getfield 23, 8) := by decide +kernel
theorem li_93_8 : il_93.lookup 8 = some (.getfield 156, 11) := by decide +kernel
theorem li_93_11 : il_93.lookup 11 = some (.if_icmp .ne 10, 14) := by decide +kernel
theorem bo_93_21_46c79c : ∀ e ∈ ([(21, .iconst 0, 22)] : List (Nat × Instr × Nat)), il_93.lookup e.1 = some e.2 := by decide +kernel
theorem li_93_22 : il_93.lookup 22 = some (.ireturn, 23) := by decide +kernel
theorem bo_93_14_3e81ce : ∀ e ∈ ([(14, .aload_n 0, 15)] : List (Nat × Instr × Nat)), il_93.lookup e.1 = some e.2 := by decide +kernel
theorem li_93_15 : il_93.lookup 15 = some (.getfield 126, 18) := by decide +kernel
theorem li_93_18 : il_93.lookup 18 = some (.ifCond .eq 5, 21) := by decide +kernel
theorem bo_93_23_b37e12 : ∀ e ∈ ([(23, .aload_n 0, 24)] : List (Nat × Instr × Nat)), il_93.lookup e.1 = some e.2 := by decide +kernel
theorem li_93_24 : il_93.lookup 24 = some (.getfield 35, 27) := by decide +kernel
theorem bo_93_27_fe3fdb : ∀ e ∈ ([(27, .astore_n 1, 28), (28, .aload_n 1, 29)] : List (Nat × Instr × Nat)), il_93.lookup e.1 = some e.2 := by decide +kernel
theorem li_93_29 : il_93.lookup 29 = some (.arraylength, 30) := by decide +kernel
theorem bo_93_30_8434fa : ∀ e ∈ ([(30, .istore_n 2, 31), (31, .iconst 0, 32), (32, .istore_n 3, 33)] : List (Nat × Instr × Nat)), il_93.lookup e.1 = some e.2 := by decide +kernel
theorem bo_94_0_8d5162 : ∀ e ∈ ([(0, .aload_n 0, 1)] : List (Nat × Instr × Nat)), il_94.lookup e.1 = some e.2 := by decide +kernel
theorem li_94_1 : il_94.lookup 1 = some (.getfield 26, 4) := by decide +kernel
theorem bo_94_4_e962e2 : ∀ e ∈ ([(4, .aload_n 0, 5)] : List (Nat × Instr × Nat)), il_94.lookup e.1 = some e.2 := by decide +kernel
theorem li_94_5 : il_94.lookup 5 = some (.getfield 22, 8) := by decide +kernel
theorem li_94_8 : il_94.lookup 8 = some (.getfield 30, 11) := by decide +kernel
theorem li_94_11 : il_94.lookup 11 = some (.if_icmp .ge 7, 14) := by decide +kernel
theorem bo_94_18_2b31d8 : ∀ e ∈ ([(18, .iconst 0, 19)] : List (Nat × Instr × Nat)), il_94.lookup e.1 = some e.2 := by decide +kernel
theorem li_94_19 : il_94.lookup 19 = some (.ireturn, 20) := by decide +kernel
theorem bo_94_14_4d7356 : ∀ e ∈ ([(14, .iconst 1, 15), (15, .goto 4, 18)] : List (Nat × Instr × Nat)), il_94.lookup e.1 = some e.2 := by decide +kernel
theorem bo_95_0_8d5162 : ∀ e ∈ ([(0, .aload_n 0, 1)] : List (Nat × Instr × Nat)), il_95.lookup e.1 = some e.2 := by decide +kernel
theorem li_95_1 : il_95.lookup 1 = some (.getfield 18, 4) := by decide +kernel
theorem bo_95_4_e962e2 : ∀ e ∈ ([(4, .aload_n 0, 5)] : List (Nat × Instr × Nat)), il_95.lookup e.1 = some e.2 := by decide +kernel
theorem li_95_5 : il_95.lookup 5 = some (.getfield 59, 8) := by decide +kernel
theorem bo_95_8_383530 : ∀ e ∈ ([(8, .aload_n 0, 9)] : List (Nat × Instr × Nat)), il_95.lookup e.1 = some e.2 := by decide +kernel
theorem li_95_9 : il_95.lookup 9 = some (.getfield 26, 12) := by decide +kernel
theorem bo_95_12_011d94 : ∀ e ∈ ([(12, .iadd, 13), (13, .iconst 3, 14), (14, .iand, 15), (15, .iload_n 1, 16)] : List (Nat × Instr × Nat)), il_95.lookup e.1 = some e.2 := by decide +kernel
theorem li_95_16 : il_95.lookup 16 = some (.iastore, 17) := by decide +kernel
theorem bo_95_17_03196b : ∀ e ∈ ([(17, .aload_n 0, 18), (18, .dup, 19)] : List (Nat × Instr × Nat)), il_95.lookup e.1 = some e.2 := by decide +kernel
theorem li_95_19 : il_95.lookup 19 = some (.getfield 26, 22) := by decide +kernel
theorem bo_95_22_13b32e : ∀ e ∈ ([(22, .iconst 1, 23), (23, .iadd, 24)] : List (Nat × Instr × Nat)), il_95.lookup e.1 = some e.2 := by decide +kernel
theorem li_95_24 : il_95.lookup 24 = some (.putfield 26, 27) := by decide +kernel
theorem li_95_27 : il_95.lookup 27 = some (.return_, 28) := by decide +kernel
theorem bo_96_0_264884 : ∀ e ∈ ([(0, .aload_n 0, 1), (1, .aload_n 0, 2)] : List (Nat × Instr × Nat)), il_96.lookup e.1 = some e.2 := by decide +kernel
theorem li_96_2 : il_96.lookup 2 = some (.getfield 35, 5) := by decide +kernel
theorem li_96_5 : il_96.lookup 5 = some (.invokevirtual 52, 8) := by decide +kernel
theorem bo_96_8_0adad6 : ∀ e ∈ ([(8, .aload_n 0, 9), (9, .iconst 0, 10)] : List (Nat × Instr × Nat)), il_96.lookup e.1 = some e.2 := by decide +kernel
theorem li_96_10 : il_96.lookup 10 = some (.putfield 35, 13) := by decide +kernel
theorem bo_96_13_1f05a9 : ∀ e ∈ ([(13, .aload_n 0, 14), (14, .iconst 0, 15)] : List (Nat × Instr × Nat)), il_96.lookup e.1 = some e.2 := by decide +kernel
theorem li_96_15 : il_96.lookup 15 = some (.putfield 55, 18) := by decide +kernel
theorem li_96_18 : il_96.lookup 18 = some (.return_, 19) := by decide +kernel
theorem bo_97_0_8d5162 : ∀ e ∈ ([(0, .aload_n 0, 1)] : List (Nat × Instr × Nat)), il_97.lookup e.1 = some e.2 := by decide +kernel
theorem li_97_1 : il_97.lookup 1 = some (.getfield 35, 4) := by decide +kernel
theorem li_97_4 : il_97.lookup 4 = some (.ifCond .ne 4, 7) := by decide +kernel
theorem bo_97_8_0adad6 : ∀ e ∈ ([(8, .aload_n 0, 9), (9, .dup, 10)] : List (Nat × Instr × Nat)), il_97.lookup e.1 = some e.2 := by decide +kernel
theorem li_97_10 : il_97.lookup 10 = some (.getfield 55, 13) := by decide +kernel
theorem bo_97_13_1f05a9 : ∀ e ∈ ([(13, .iconst 1, 14), (14, .iadd, 15)] : List (Nat × Instr × Nat)), il_97.lookup e.1 = some e.2 := by decide +kernel
theorem li_97_15 : il_97.lookup 15 = some (.putfield 55, 18) := by decide +kernel
theorem bo_97_18_2b31d8 : ∀ e ∈ ([(18, .aload_n 0, 19)] : List (Nat × Instr × Nat)), il_97.lookup e.1 = some e.2 := by decide +kernel
theorem li_97_19 : il_97.lookup 19 = some (.getfield 55, 22) := by decide +kernel
theorem bo_97_22_60ac31 : ∀ e ∈ ([(22, .aload_n 0, 23)] : List (Nat × Instr × Nat)), il_97.lookup e.1 = some e.2 := by decide +kernel
theorem li_97_23 : il_97.lookup 23 = some (.getfield 22, 26) := by decide +kernel
theorem li_97_26 : il_97.lookup 26 = some (.getfield 58, 29) := by decide +kernel
theorem li_97_29 : il_97.lookup 29 = some (.if_icmp .lt 14, 32) := by decide +kernel
theorem li_97_43 : il_97.lookup 43 = some (.return_, 44) := by decide +kernel
theorem bo_97_32_191034 : ∀ e ∈ ([(32, .aload_n 0, 33)] : List (Nat × Instr × Nat)), il_97.lookup e.1 = some e.2 := by decide +kernel
theorem li_97_33 : il_97.lookup 33 = some (.invokevirtual 41, 36) := by decide +kernel
theorem li_97_36 : il_97.lookup 36 = some (.ifCond .eq 7, 39) := by decide +kernel
theorem bo_97_39_4dcc25 : ∀ e ∈ ([(39, .aload_n 0, 40)] : List (Nat × Instr × Nat)), il_97.lookup e.1 = some e.2 := by decide +kernel
theorem li_97_40 : il_97.lookup 40 = some (.invokevirtual 45, 43) := by decide +kernel
theorem li_97_7 : il_97.lookup 7 = some (.return_, 8) := by decide +kernel
theorem bo_98_0_8d5162 : ∀ e ∈ ([(0, .aload_n 0, 1)] : List (Nat × Instr × Nat)), il_98.lookup e.1 = some e.2 := by decide +kernel
theorem li_98_1 : il_98.lookup 1 = some (.getfield 47, 4) := by decide +kernel
theorem bo_98_4_e962e2 : ∀ e ∈ ([(4, .iconst 4, 5)] : List (Nat × Instr × Nat)), il_98.lookup e.1 = some e.2 := by decide +kernel
theorem li_98_5 : il_98.lookup 5 = some (.if_icmp .eq 29, 8) := by decide +kernel
theorem bo_98_34_812988 : ∀ e ∈ ([(34, .iconst 1, 35), (35, .goto 4, 38)] : List (Nat × Instr × Nat)), il_98.lookup e.1 = some e.2 := by decide +kernel
theorem li_98_39 : il_98.lookup 39 = some (.ireturn, 40) := by decide +kernel
theorem bo_98_8_383530 : ∀ e ∈ ([(8, .aload_n 0, 9)] : List (Nat × Instr × Nat)), il_98.lookup e.1 = some e.2 := by decide +kernel
theorem li_98_9 : il_98.lookup 9 = some (.getfield 47, 12) := by decide +kernel
theorem bo_98_12_d0d0c9 : ∀ e ∈ ([(12, .iconst 5, 13)] : List (Nat × Instr × Nat)), il_98.lookup e.1 = some e.2 := by decide +kernel
theorem li_98_13 : il_98.lookup 13 = some (.if_icmp .eq 21, 16) := by decide +kernel
theorem bo_98_16_862b1a : ∀ e ∈ ([(16, .aload_n 0, 17)] : List (Nat × Instr × Nat)), il_98.lookup e.1 = some e.2 := by decide +kernel
theorem li_98_17 : il_98.lookup 17 = some (.getfield 47, 20) := by decide +kernel
theorem bo_98_20_baa9a0 : ∀ e ∈ ([(20, .bipush 6, 22)] : List (Nat × Instr × Nat)), il_98.lookup e.1 = some e.2 := by decide +kernel
theorem li_98_22 : il_98.lookup 22 = some (.if_icmp .eq 12, 25) := by decide +kernel
theorem bo_98_25_1858f6 : ∀ e ∈ ([(25, .aload_n 0, 26)] : List (Nat × Instr × Nat)), il_98.lookup e.1 = some e.2 := by decide +kernel
theorem li_98_26 : il_98.lookup 26 = some (.getfield 47, 29) := by decide +kernel
theorem bo_98_29_2d7a5f : ∀ e ∈ ([(29, .bipush 8, 31)] : List (Nat × Instr × Nat)), il_98.lookup e.1 = some e.2 := by decide +kernel
theorem li_98_31 : il_98.lookup 31 = some (.if_icmp .ne 7, 34) := by decide +kernel
theorem bo_98_38_c8c763 : ∀ e ∈ ([(38, .iconst 0, 39)] : List (Nat × Instr × Nat)), il_98.lookup e.1 = some e.2 := by decide +kernel
theorem bo_99_0_8d5162 : ∀ e ∈ ([(0, .aload_n 0, 1)] : List (Nat × Instr × Nat)), il_99.lookup e.1 = some e.2 := by decide +kernel
theorem li_99_1 : il_99.lookup 1 = some (.getfield 7, 4) := by decide +kernel
theorem bo_99_4_e962e2 : ∀ e ∈ ([(4, .aload_n 0, 5)] : List (Nat × Instr × Nat)), il_99.lookup e.1 = some e.2 := by decide +kernel
theorem li_99_5 : il_99.lookup 5 = some (.getfield 26, 8) := by decide +kernel
theorem bo_99_8_325fca : ∀ e ∈ ([(8, .iload_n 1, 9), (9, .iadd, 10), (10, .aload_n 0, 11)] : List (Nat × Instr × Nat)), il_99.lookup e.1 = some e.2 := by decide +kernel
theorem li_99_11 : il_99.lookup 11 = some (.getfield 19, 14) := by decide +kernel
theorem bo_99_14_3e81ce : ∀ e ∈ ([(14, .iand, 15)] : List (Nat × Instr × Nat)), il_99.lookup e.1 = some e.2 := by decide +kernel
theorem li_99_15 : il_99.lookup 15 = some (.iaload, 16) := by decide +kernel
theorem li_99_16 : il_99.lookup 16 = some (.ireturn, 17) := by decide +kernel
theorem bo_100_0_da07eb : ∀ e ∈ ([(0, .iload_n 1, 1), (1, .bipush 7, 3), (3, .iand, 4), (4, .iload_n 2, 5), (5, .imul, 6), (6, .bipush 8, 8)] : List (Nat × Instr × Nat)), il_100.lookup e.1 = some e.2 := by decide +kernel
theorem li_100_8 : il_100.lookup 8 = some (.idiv, 9) := by decide +kernel
theorem li_100_9 : il_100.lookup 9 = some (.ireturn, 10) := by decide +kernel
theorem bo_101_0_264884 : ∀ e ∈ ([(0, .iload_n 0, 1), (1, .iload_n 1, 2)] : List (Nat × Instr × Nat)), il_101.lookup e.1 = some e.2 := by decide +kernel
theorem li_101_2 : il_101.lookup 2 = some (.irem, 3) := by decide +kernel
theorem bo_101_3_07ff9d : ∀ e ∈ ([(3, .istore_n 2, 4), (4, .iload_n 0, 5), (5, .iload_n 1, 6), (6, .ixor, 7)] : List (Nat × Instr × Nat)), il_101.lookup e.1 = some e.2 := by decide +kernel
theorem li_101_7 : il_101.lookup 7 = some (.ifCond .ge 11, 10) := by decide +kernel
theorem bo_101_18_2b31d8 : ∀ e ∈ ([(18, .iload_n 2, 19)] : List (Nat × Instr × Nat)), il_101.lookup e.1 = some e.2 := by decide +kernel
theorem li_101_19 : il_101.lookup 19 = some (.ireturn, 20) := by decide +kernel
theorem bo_101_10_2a30f5 : ∀ e ∈ ([(10, .iload_n 2, 11)] : List (Nat × Instr × Nat)), il_101.lookup e.1 = some e.2 := by decide +kernel
theorem li_101_11 : il_101.lookup 11 = some (.ifCond .eq 7, 14) := by decide +kernel
theorem bo_101_14_7ac8d1 : ∀ e ∈ ([(14, .iload_n 2, 15), (15, .iload_n 1, 16), (16, .iadd, 17)] : List (Nat × Instr × Nat)), il_101.lookup e.1 = some e.2 := by decide +kernel
theorem li_101_17 : il_101.lookup 17 = some (.ireturn, 18) := by decide +kernel
theorem bo_102_0_5a4d31 : ∀ e ∈ ([(0, .aload_n 0, 1), (1, .iload_n 1, 2), (2, .iconst 1, 3), (3, .iadd, 4)] : List (Nat × Instr × Nat)), il_102.lookup e.1 = some e.2 := by decide +kernel
theorem li_102_4 : il_102.lookup 4 = some (.invokevirtual 54, 7) := by decide +kernel
theorem bo_102_7_ef20d1 : ∀ e ∈ ([(7, .astore_n 3, 8), (8, .aload_n 3, 9), (9, .ifnull 20, 12), (29, .iconst (-1), 30)] : List (Nat × Instr × Nat)), il_102.lookup e.1 = some e.2 := by decide +kernel
theorem li_102_30 : il_102.lookup 30 = some (.ireturn, 31) := by decide +kernel
theorem bo_102_7_ac2c6f : ∀ e ∈ ([(7, .astore_n 3, 8), (8, .aload_n 3, 9), (9, .ifnull 20, 12), (12, .aload_n 3, 13)] : List (Nat × Instr × Nat)), il_102.lookup e.1 = some e.2 := by decide +kernel
theorem li_102_13 : il_102.lookup 13 = some (.getfield 58, 16) := by decide +kernel
theorem li_102_16 : il_102.lookup 16 = some (.ifCond .le 13, 19) := by decide +kernel
theorem bo_102_29_2d7a5f : ∀ e ∈ ([(29, .iconst (-1), 30)] : List (Nat × Instr × Nat)), il_102.lookup e.1 = some e.2 := by decide +kernel
theorem bo_102_19_1a8444 : ∀ e ∈ ([(19, .aload_n 2, 20)] : List (Nat × Instr × Nat)), il_102.lookup e.1 = some e.2 := by decide +kernel
theorem li_102_20 : il_102.lookup 20 = some (.getfield 168, 23) := by decide +kernel
theorem li_102_23 : il_102.lookup 23 = some (.getfield 156, 26) := by decide +kernel
theorem li_102_26 : il_102.lookup 26 = some (.ifCond .ne 5, 29) := by decide +kernel
theorem bo_102_31_c379e3 : ∀ e ∈ ([(31, .aload_n 3, 32)] : List (Nat × Instr × Nat)), il_102.lookup e.1 = some e.2 := by decide +kernel
theorem li_102_32 : il_102.lookup 32 = some (.invokevirtual 190, 35) := by decide +kernel
theorem li_102_35 : il_102.lookup 35 = some (.ifCond .eq 20, 38) := by decide +kernel
theorem bo_102_55_bd1207 : ∀ e ∈ ([(55, .aload_n 2, 56)] : List (Nat × Instr × Nat)), il_102.lookup e.1 = some e.2 := by decide +kernel
theorem li_102_56 : il_102.lookup 56 = some (.getfield 145, 59) := by decide +kernel
theorem bo_102_59_8c3b95 : ∀ e ∈ ([(59, .aload_n 3, 60)] : List (Nat × Instr × Nat)), il_102.lookup e.1 = some e.2 := by decide +kernel
theorem li_102_60 : il_102.lookup 60 = some (.getfield 58, 63) := by decide +kernel
theorem li_102_63 : il_102.lookup 63 = some (.invokestatic 200, 66) := by decide +kernel
theorem li_102_66 : il_102.lookup 66 = some (.ireturn, 67) := by decide +kernel
theorem bo_102_38_ef227d : ∀ e ∈ ([(38, .aload_n 3, 39), (39, .aload_n 2, 40)] : List (Nat × Instr × Nat)), il_102.lookup e.1 = some e.2 := by decide +kernel
theorem li_102_40 : il_102.lookup 40 = some (.getfield 168, 43) := by decide +kernel
theorem bo_102_43_d85b47 : ∀ e ∈ ([(43, .iconst 0, 44)] : List (Nat × Instr × Nat)), il_102.lookup e.1 = some e.2 := by decide +kernel
theorem li_102_44 : il_102.lookup 44 = some (.invokevirtual 193, 47) := by decide +kernel
theorem bo_102_47_d7fa8e : ∀ e ∈ ([(47, .aload_n 3, 48)] : List (Nat × Instr × Nat)), il_102.lookup e.1 = some e.2 := by decide +kernel
theorem li_102_48 : il_102.lookup 48 = some (.getfield 58, 51) := by decide +kernel
theorem li_102_51 : il_102.lookup 51 = some (.invokevirtual 196, 54) := by decide +kernel
theorem li_102_54 : il_102.lookup 54 = some (.ireturn, 55) := by decide +kernel
theorem bo_103_0_264884 : ∀ e ∈ ([(0, .aload_n 0, 1), (1, .iload_n 1, 2)] : List (Nat × Instr × Nat)), il_103.lookup e.1 = some e.2 := by decide +kernel
theorem li_103_2 : il_103.lookup 2 = some (.invokevirtual 54, 5) := by decide +kernel
theorem bo_103_5_4a4e1d : ∀ e ∈ ([(5, .astore 4, 7), (7, .aload_n 0, 8), (8, .iload_n 1, 9), (9, .iconst 1, 10), (10, .iadd, 11)] : List (Nat × Instr × Nat)), il_103.lookup e.1 = some e.2 := by decide +kernel
theorem li_103_11 : il_103.lookup 11 = some (.invokevirtual 54, 14) := by decide +kernel
theorem bo_103_14_dad26f : ∀ e ∈ ([(14, .astore 5, 16), (16, .aload 4, 18), (18, .ifnull 8, 21), (26, .aconst_null, 27)] : List (Nat × Instr × Nat)), il_103.lookup e.1 = some e.2 := by decide +kernel
theorem li_103_27 : il_103.lookup 27 = some (.areturn, 28) := by decide +kernel
theorem bo_103_14_6e7d76 : ∀ e ∈ ([(14, .astore 5, 16), (16, .aload 4, 18), (18, .ifnull 8, 21), (21, .aload 5, 23), (23, .ifnonnull 5, 26), (26, .aconst_null, 27)] : List (Nat × Instr × Nat)), il_103.lookup e.1 = some e.2 := by decide +kernel
theorem bo_103_14_e31ebd : ∀ e ∈ ([(14, .astore 5, 16), (16, .aload 4, 18), (18, .ifnull 8, 21), (21, .aload 5, 23), (23, .ifnonnull 5, 26), (28, .iload_n 2, 29)] : List (Nat × Instr × Nat)), il_103.lookup e.1 = some e.2 := by decide +kernel
theorem li_103_29 : il_103.lookup 29 = some (.ifCond .lt 25, 32) := by decide +kernel
theorem bo_103_54_02ca38 : ∀ e ∈ ([(54, .aconst_null, 55)] : List (Nat × Instr × Nat)), il_103.lookup e.1 = some e.2 := by decide +kernel
theorem li_103_55 : il_103.lookup 55 = some (.areturn, 56) := by decide +kernel
theorem bo_103_32_dac25e : ∀ e ∈ ([(32, .iload_n 2, 33), (33, .aload 4, 35)] : List (Nat × Instr × Nat)), il_103.lookup e.1 = some e.2 := by decide +kernel
theorem li_103_35 : il_103.lookup 35 = some (.getfield 58, 38) := by decide +kernel
theorem li_103_38 : il_103.lookup 38 = some (.if_icmp .ge 16, 41) := by decide +kernel
theorem bo_103_41_45abaf : ∀ e ∈ ([(41, .iload_n 3, 42)] : List (Nat × Instr × Nat)), il_103.lookup e.1 = some e.2 := by decide +kernel
theorem li_103_42 : il_103.lookup 42 = some (.ifCond .lt 12, 45) := by decide +kernel
theorem bo_103_45_b7d017 : ∀ e ∈ ([(45, .iload_n 3, 46), (46, .aload 5, 48)] : List (Nat × Instr × Nat)), il_103.lookup e.1 = some e.2 := by decide +kernel
theorem li_103_48 : il_103.lookup 48 = some (.getfield 58, 51) := by decide +kernel
theorem li_103_51 : il_103.lookup 51 = some (.if_icmp .lt 5, 54) := by decide +kernel
theorem bo_103_56_bc2598 : ∀ e ∈ ([(56, .iload_n 1, 57), (57, .iconst 3, 58), (58, .imul, 59), (59, .iload_n 2, 60), (60, .iadd, 61), (61, .iconst 3, 62), (62, .imul, 63), (63, .iload_n 3, 64), (64, .iadd, 65), (65, .istore 6, 67), (67, .iload 6, 69)] : List (Nat × Instr × Nat)), il_103.lookup e.1 = some e.2 := by decide +kernel
theorem li_103_69 : il_103.lookup 69 = some (.ifCond .lt 13, 72) := by decide +kernel
theorem bo_103_82_695807 : ∀ e ∈ ([(82, .aconst_null, 83), (83, .goto 10, 86)] : List (Nat × Instr × Nat)), il_103.lookup e.1 = some e.2 := by decide +kernel
theorem li_103_93 : il_103.lookup 93 = some (.areturn, 94) := by decide +kernel
theorem bo_103_72_9ed66b : ∀ e ∈ ([(72, .iload 6, 74), (74, .aload_n 0, 75)] : List (Nat × Instr × Nat)), il_103.lookup e.1 = some e.2 := by decide +kernel
theorem li_103_75 : il_103.lookup 75 = some (.getfield 35, 78) := by decide +kernel
theorem li_103_78 : il_103.lookup 78 = some (.arraylength, 79) := by decide +kernel
theorem li_103_79 : il_103.lookup 79 = some (.if_icmp .lt 7, 82) := by decide +kernel
theorem bo_103_86_bff005 : ∀ e ∈ ([(86, .aload_n 0, 87)] : List (Nat × Instr × Nat)), il_103.lookup e.1 = some e.2 := by decide +kernel
theorem li_103_87 : il_103.lookup 87 = some (.getfield 35, 90) := by decide +kernel
theorem bo_103_90_d3b5bf : ∀ e ∈ ([(90, .iload 6, 92)] : List (Nat × Instr × Nat)), il_103.lookup e.1 = some e.2 := by decide +kernel
theorem li_103_92 : il_103.lookup 92 = some (.aaload, 93) := by decide +kernel
theorem bo_104_0_8d5162 : ∀ e ∈ ([(0, .aload_n 0, 1)] : List (Nat × Instr × Nat)), il_104.lookup e.1 = some e.2 := by decide +kernel
theorem li_104_1 : il_104.lookup 1 = some (.getfield 35, 4) := by decide +kernel
theorem bo_104_4_e962e2 : ∀ e ∈ ([(4, .aload_n 0, 5)] : List (Nat × Instr × Nat)), il_104.lookup e.1 = some e.2 := by decide +kernel
theorem li_104_5 : il_104.lookup 5 = some (.getfield 22, 8) := by decide +kernel
theorem li_104_8 : il_104.lookup 8 = some (.getfield 38, 11) := by decide +kernel
theorem li_104_11 : il_104.lookup 11 = some (.if_icmp .lt 10, 14) := by decide +kernel
theorem bo_104_21_13696e : ∀ e ∈ ([(21, .iconst 1, 22), (22, .goto 4, 25)] : List (Nat × Instr × Nat)), il_104.lookup e.1 = some e.2 := by decide +kernel
theorem li_104_26 : il_104.lookup 26 = some (.ireturn, 27) := by decide +kernel
theorem bo_104_14_3e81ce : ∀ e ∈ ([(14, .aload_n 0, 15)] : List (Nat × Instr × Nat)), il_104.lookup e.1 = some e.2 := by decide +kernel
theorem li_104_15 : il_104.lookup 15 = some (.invokevirtual 41, 18) := by decide +kernel
theorem li_104_18 : il_104.lookup 18 = some (.ifCond .eq 7, 21) := by decide +kernel
theorem bo_104_25_1858f6 : ∀ e ∈ ([(25, .iconst 0, 26)] : List (Nat × Instr × Nat)), il_104.lookup e.1 = some e.2 := by decide +kernel
theorem bo_105_0_8d5162 : ∀ e ∈ ([(0, .aload_n 0, 1)] : List (Nat × Instr × Nat)), il_105.lookup e.1 = some e.2 := by decide +kernel
theorem li_105_1 : il_105.lookup 1 = some (.getfield 13, 4) := by decide +kernel
theorem bo_105_4_e962e2 : ∀ e ∈ ([(4, .aload_n 0, 5)] : List (Nat × Instr × Nat)), il_105.lookup e.1 = some e.2 := by decide +kernel
theorem li_105_5 : il_105.lookup 5 = some (.getfield 26, 8) := by decide +kernel
theorem bo_105_8_325fca : ∀ e ∈ ([(8, .iload_n 1, 9), (9, .iadd, 10), (10, .aload_n 0, 11)] : List (Nat × Instr × Nat)), il_105.lookup e.1 = some e.2 := by decide +kernel
theorem li_105_11 : il_105.lookup 11 = some (.getfield 19, 14) := by decide +kernel
theorem bo_105_14_3e81ce : ∀ e ∈ ([(14, .iand, 15)] : List (Nat × Instr × Nat)), il_105.lookup e.1 = some e.2 := by decide +kernel
theorem li_105_15 : il_105.lookup 15 = some (.iaload, 16) := by decide +kernel
theorem li_105_16 : il_105.lookup 16 = some (.ireturn, 17) := by decide +kernel
theorem bo_106_0_8d5162 : ∀ e ∈ ([(0, .aload_n 0, 1)] : List (Nat × Instr × Nat)), il_106.lookup e.1 = some e.2 := by decide +kernel
theorem li_106_1 : il_106.lookup 1 = some (.getfield 16, 4) := by decide +kernel
theorem bo_106_4_e962e2 : ∀ e ∈ ([(4, .aload_n 0, 5)] : List (Nat × Instr × Nat)), il_106.lookup e.1 = some e.2 := by decide +kernel
theorem li_106_5 : il_106.lookup 5 = some (.getfield 26, 8) := by decide +kernel
theorem bo_106_8_325fca : ∀ e ∈ ([(8, .iload_n 1, 9), (9, .iadd, 10), (10, .aload_n 0, 11)] : List (Nat × Instr × Nat)), il_106.lookup e.1 = some e.2 := by decide +kernel
theorem li_106_11 : il_106.lookup 11 = some (.getfield 19, 14) := by decide +kernel
theorem bo_106_14_3e81ce : ∀ e ∈ ([(14, .iand, 15)] : List (Nat × Instr × Nat)), il_106.lookup e.1 = some e.2 := by decide +kernel
theorem li_106_15 : il_106.lookup 15 = some (.iaload, 16) := by decide +kernel
theorem li_106_16 : il_106.lookup 16 = some (.ireturn, 17) := by decide +kernel
theorem bo_107_18_2b31d8 : ∀ e ∈ ([(18, .aload_n 0, 19)] : List (Nat × Instr × Nat)), il_107.lookup e.1 = some e.2 := by decide +kernel
theorem li_107_19 : il_107.lookup 19 = some (.getfield 12, 22) := by decide +kernel
theorem bo_107_22_8489d5 : ∀ e ∈ ([(22, .iload_n 1, 23), (23, .iload_n 2, 24), (24, .iload_n 3, 25)] : List (Nat × Instr × Nat)), il_107.lookup e.1 = some e.2 := by decide +kernel
theorem li_107_25 : il_107.lookup 25 = some (.invokevirtual 48, 28) := by decide +kernel
theorem bo_107_28_533662 : ∀ e ∈ ([(28, .aload_n 0, 29), (29, .dup, 30)] : List (Nat × Instr × Nat)), il_107.lookup e.1 = some e.2 := by decide +kernel
theorem li_107_30 : il_107.lookup 30 = some (.getfield 35, 33) := by decide +kernel
theorem bo_107_33_9ed66c : ∀ e ∈ ([(33, .iconst 1, 34), (34, .iadd, 35)] : List (Nat × Instr × Nat)), il_107.lookup e.1 = some e.2 := by decide +kernel
theorem li_107_35 : il_107.lookup 35 = some (.putfield 35, 38) := by decide +kernel
theorem bo_107_38_c8c763 : ∀ e ∈ ([(38, .aload_n 0, 39)] : List (Nat × Instr × Nat)), il_107.lookup e.1 = some e.2 := by decide +kernel
theorem li_107_39 : il_107.lookup 39 = some (.getfield 35, 42) := by decide +kernel
theorem bo_107_42_b358e7 : ∀ e ∈ ([(42, .aload_n 0, 43)] : List (Nat × Instr × Nat)), il_107.lookup e.1 = some e.2 := by decide +kernel
theorem li_107_43 : il_107.lookup 43 = some (.getfield 22, 46) := by decide +kernel
theorem li_107_46 : il_107.lookup 46 = some (.getfield 38, 49) := by decide +kernel
theorem li_107_49 : il_107.lookup 49 = some (.if_icmp .lt 14, 52) := by decide +kernel
theorem li_107_63 : il_107.lookup 63 = some (.return_, 64) := by decide +kernel
theorem bo_107_52_118d3f : ∀ e ∈ ([(52, .aload_n 0, 53)] : List (Nat × Instr × Nat)), il_107.lookup e.1 = some e.2 := by decide +kernel
theorem li_107_53 : il_107.lookup 53 = some (.invokevirtual 41, 56) := by decide +kernel
theorem li_107_56 : il_107.lookup 56 = some (.ifCond .eq 7, 59) := by decide +kernel
theorem bo_107_59_8c3b95 : ∀ e ∈ ([(59, .aload_n 0, 60)] : List (Nat × Instr × Nat)), il_107.lookup e.1 = some e.2 := by decide +kernel
theorem li_107_60 : il_107.lookup 60 = some (.invokevirtual 45, 63) := by decide +kernel
theorem bo_107_0_8d5162 : ∀ e ∈ ([(0, .aload_n 0, 1)] : List (Nat × Instr × Nat)), il_107.lookup e.1 = some e.2 := by decide +kernel
theorem li_107_1 : il_107.lookup 1 = some (.getfield 35, 4) := by decide +kernel
theorem bo_107_4_e962e2 : ∀ e ∈ ([(4, .aload_n 0, 5)] : List (Nat × Instr × Nat)), il_107.lookup e.1 = some e.2 := by decide +kernel
theorem li_107_5 : il_107.lookup 5 = some (.getfield 22, 8) := by decide +kernel
theorem li_107_8 : il_107.lookup 8 = some (.getfield 38, 11) := by decide +kernel
theorem li_107_11 : il_107.lookup 11 = some (.if_icmp .lt 7, 14) := by decide +kernel
theorem bo_107_14_3e81ce : ∀ e ∈ ([(14, .aload_n 0, 15)] : List (Nat × Instr × Nat)), il_107.lookup e.1 = some e.2 := by decide +kernel
theorem li_107_15 : il_107.lookup 15 = some (.invokevirtual 45, 18) := by decide +kernel
theorem bo_108_0_8d5162 : ∀ e ∈ ([(0, .aload_n 0, 1)] : List (Nat × Instr × Nat)), il_108.lookup e.1 = some e.2 := by decide +kernel
theorem li_108_1 : il_108.lookup 1 = some (.getfield 23, 4) := by decide +kernel
theorem li_108_4 : il_108.lookup 4 = some (.ifCond .le 28, 7) := by decide +kernel
theorem li_108_32 : il_108.lookup 32 = some (.return_, 33) := by decide +kernel
theorem bo_108_7_7eef78 : ∀ e ∈ ([(7, .aload_n 0, 8), (8, .aload_n 0, 9)] : List (Nat × Instr × Nat)), il_108.lookup e.1 = some e.2 := by decide +kernel
theorem li_108_9 : il_108.lookup 9 = some (.getfield 26, 12) := by decide +kernel
theorem bo_108_12_76c768 : ∀ e ∈ ([(12, .iconst 1, 13), (13, .iadd, 14), (14, .aload_n 0, 15)] : List (Nat × Instr × Nat)), il_108.lookup e.1 = some e.2 := by decide +kernel
theorem li_108_15 : il_108.lookup 15 = some (.getfield 19, 18) := by decide +kernel
theorem bo_108_18_2b31d8 : ∀ e ∈ ([(18, .iand, 19)] : List (Nat × Instr × Nat)), il_108.lookup e.1 = some e.2 := by decide +kernel
theorem li_108_19 : il_108.lookup 19 = some (.putfield 26, 22) := by decide +kernel
theorem bo_108_22_13b32e : ∀ e ∈ ([(22, .aload_n 0, 23), (23, .dup, 24)] : List (Nat × Instr × Nat)), il_108.lookup e.1 = some e.2 := by decide +kernel
theorem li_108_24 : il_108.lookup 24 = some (.getfield 23, 27) := by decide +kernel
theorem bo_108_27_fe3fdb : ∀ e ∈ ([(27, .iconst 1, 28), (28, .isub, 29)] : List (Nat × Instr × Nat)), il_108.lookup e.1 = some e.2 := by decide +kernel
theorem li_108_29 : il_108.lookup 29 = some (.putfield 23, 32) := by decide +kernel
theorem bo_109_112_ffcc5a : ∀ e ∈ ([(112, .iinc 6 1, 115), (115, .goto (-99), 118)] : List (Nat × Instr × Nat)), il_109.lookup e.1 = some e.2 := by decide +kernel
theorem bo_109_16_762e9e : ∀ e ∈ ([(16, .iload 6, 18), (18, .iload 5, 20)] : List (Nat × Instr × Nat)), il_109.lookup e.1 = some e.2 := by decide +kernel
theorem li_109_20 : il_109.lookup 20 = some (.if_icmp .ge 98, 23) := by decide +kernel
theorem bo_109_118_c412ec : ∀ e ∈ ([(118, .iconst 1, 119)] : List (Nat × Instr × Nat)), il_109.lookup e.1 = some e.2 := by decide +kernel
theorem li_109_119 : il_109.lookup 119 = some (.ireturn, 120) := by decide +kernel
theorem bo_109_23_2d99ef : ∀ e ∈ ([(23, .aload_n 0, 24), (24, .iload_n 1, 25), (25, .iconst 1, 26), (26, .iadd, 27)] : List (Nat × Instr × Nat)), il_109.lookup e.1 = some e.2 := by decide +kernel
theorem li_109_27 : il_109.lookup 27 = some (.invokevirtual 54, 30) := by decide +kernel
theorem bo_109_30_4ab3a1 : ∀ e ∈ ([(30, .astore 7, 32), (32, .aload_n 0, 33), (33, .iload_n 1, 34), (34, .iload_n 2, 35), (35, .aload_n 0, 36), (36, .iload_n 1, 37), (37, .aload_n 3, 38)] : List (Nat × Instr × Nat)), il_109.lookup e.1 = some e.2 := by decide +kernel
theorem li_109_38 : il_109.lookup 38 = some (.invokevirtual 247, 41) := by decide +kernel
theorem li_109_41 : il_109.lookup 41 = some (.invokevirtual 205, 44) := by decide +kernel
theorem bo_109_44_a2cb8a : ∀ e ∈ ([(44, .astore 8, 46), (46, .aload 7, 48), (48, .ifnull 16, 51), (64, .iconst 0, 65)] : List (Nat × Instr × Nat)), il_109.lookup e.1 = some e.2 := by decide +kernel
theorem li_109_65 : il_109.lookup 65 = some (.ireturn, 66) := by decide +kernel
theorem bo_109_44_ca072b : ∀ e ∈ ([(44, .astore 8, 46), (46, .aload 7, 48), (48, .ifnull 16, 51), (51, .aload 8, 53), (53, .ifnull 11, 56), (64, .iconst 0, 65)] : List (Nat × Instr × Nat)), il_109.lookup e.1 = some e.2 := by decide +kernel
theorem bo_109_44_57697c : ∀ e ∈ ([(44, .astore 8, 46), (46, .aload 7, 48), (48, .ifnull 16, 51), (51, .aload 8, 53), (53, .ifnull 11, 56), (56, .aload 8, 58)] : List (Nat × Instr × Nat)), il_109.lookup e.1 = some e.2 := by decide +kernel
theorem li_109_58 : il_109.lookup 58 = some (.invokevirtual 251, 61) := by decide +kernel
theorem li_109_61 : il_109.lookup 61 = some (.ifCond .ne 5, 64) := by decide +kernel
theorem bo_109_66_545b3a : ∀ e ∈ ([(66, .aload 8, 68), (68, .aload 4, 70), (70, .iconst 0, 71)] : List (Nat × Instr × Nat)), il_109.lookup e.1 = some e.2 := by decide +kernel
theorem li_109_71 : il_109.lookup 71 = some (.invokevirtual 193, 74) := by decide +kernel
theorem bo_109_74_b63ff7 : ∀ e ∈ ([(74, .aload 4, 76), (76, .iconst 0, 77)] : List (Nat × Instr × Nat)), il_109.lookup e.1 = some e.2 := by decide +kernel
theorem li_109_77 : il_109.lookup 77 = some (.invokevirtual 254, 80) := by decide +kernel
theorem bo_109_80_2f63be : ∀ e ∈ ([(80, .aload 4, 82), (82, .iconst 0, 83)] : List (Nat × Instr × Nat)), il_109.lookup e.1 = some e.2 := by decide +kernel
theorem li_109_83 : il_109.lookup 83 = some (.invokevirtual 257, 86) := by decide +kernel
theorem li_109_86 : il_109.lookup 86 = some (.invokevirtual 260, 89) := by decide +kernel
theorem bo_109_89_bbca9b : ∀ e ∈ ([(89, .aload 4, 91)] : List (Nat × Instr × Nat)), il_109.lookup e.1 = some e.2 := by decide +kernel
theorem li_109_91 : il_109.lookup 91 = some (.invokevirtual 264, 94) := by decide +kernel
theorem bo_109_94_6615ab : ∀ e ∈ ([(94, .aload 7, 96)] : List (Nat × Instr × Nat)), il_109.lookup e.1 = some e.2 := by decide +kernel
theorem li_109_96 : il_109.lookup 96 = some (.invokevirtual 190, 99) := by decide +kernel
theorem li_109_99 : il_109.lookup 99 = some (.ifCond .ne 13, 102) := by decide +kernel
theorem bo_109_102_036f47 : ∀ e ∈ ([(102, .aload_n 3, 103), (103, .dup, 104)] : List (Nat × Instr × Nat)), il_109.lookup e.1 = some e.2 := by decide +kernel
theorem li_109_104 : il_109.lookup 104 = some (.getfield 145, 107) := by decide +kernel
theorem bo_109_107_68dab3 : ∀ e ∈ ([(107, .iconst 1, 108), (108, .iadd, 109)] : List (Nat × Instr × Nat)), il_109.lookup e.1 = some e.2 := by decide +kernel
theorem li_109_109 : il_109.lookup 109 = some (.putfield 145, 112) := by decide +kernel
theorem bo_109_64_446f01 : ∀ e ∈ ([(64, .iconst 0, 65)] : List (Nat × Instr × Nat)), il_109.lookup e.1 = some e.2 := by decide +kernel
theorem bo_109_0_8d5162 : ∀ e ∈ ([(0, .aload_n 3, 1)] : List (Nat × Instr × Nat)), il_109.lookup e.1 = some e.2 := by decide +kernel
theorem li_109_1 : il_109.lookup 1 = some (.getfield 168, 4) := by decide +kernel
theorem bo_109_4_00941c : ∀ e ∈ ([(4, .astore 4, 6), (6, .aload 4, 8)] : List (Nat × Instr × Nat)), il_109.lookup e.1 = some e.2 := by decide +kernel
theorem li_109_8 : il_109.lookup 8 = some (.getfield 156, 11) := by decide +kernel
theorem bo_109_11_c85c88 : ∀ e ∈ ([(11, .istore 5, 13), (13, .iconst 0, 14), (14, .istore 6, 16)] : List (Nat × Instr × Nat)), il_109.lookup e.1 = some e.2 := by decide +kernel
theorem bo_110_12_1089ca : ∀ e ∈ ([(12, .istore_n 1, 13), (13, .aload_n 0, 14)] : List (Nat × Instr × Nat)), il_110.lookup e.1 = some e.2 := by decide +kernel
theorem li_110_14 : il_110.lookup 14 = some (.getfield 26, 17) := by decide +kernel
theorem bo_110_17_06e792 : ∀ e ∈ ([(17, .iload_n 1, 18), (18, .iadd, 19), (19, .aload_n 0, 20)] : List (Nat × Instr × Nat)), il_110.lookup e.1 = some e.2 := by decide +kernel
theorem li_110_20 : il_110.lookup 20 = some (.getfield 22, 23) := by decide +kernel
theorem li_110_23 : il_110.lookup 23 = some (.getfield 30, 26) := by decide +kernel
theorem li_110_26 : il_110.lookup 26 = some (.if_icmp .gt 7, 29) := by decide +kernel
theorem bo_110_33_1dc721 : ∀ e ∈ ([(33, .iconst 0, 34)] : List (Nat × Instr × Nat)), il_110.lookup e.1 = some e.2 := by decide +kernel
theorem li_110_34 : il_110.lookup 34 = some (.ireturn, 35) := by decide +kernel
theorem bo_110_29_2746c1 : ∀ e ∈ ([(29, .iconst 1, 30), (30, .goto 4, 33)] : List (Nat × Instr × Nat)), il_110.lookup e.1 = some e.2 := by decide +kernel
theorem bo_110_0_8d5162 : ∀ e ∈ ([(0, .aload_n 0, 1)] : List (Nat × Instr × Nat)), il_110.lookup e.1 = some e.2 := by decide +kernel
theorem li_110_1 : il_110.lookup 1 = some (.getfield 35, 4) := by decide +kernel
theorem li_110_4 : il_110.lookup 4 = some (.ifCond .le 7, 7) := by decide +kernel
theorem bo_110_11_081257 : ∀ e ∈ ([(11, .iconst 1, 12)] : List (Nat × Instr × Nat)), il_110.lookup e.1 = some e.2 := by decide +kernel
theorem bo_110_7_7eef78 : ∀ e ∈ ([(7, .iconst 2, 8), (8, .goto 4, 11)] : List (Nat × Instr × Nat)), il_110.lookup e.1 = some e.2 := by decide +kernel
theorem bo_111_37_ff1056 : ∀ e ∈ ([(37, .iinc 3 1, 40), (40, .goto (-38), 43)] : List (Nat × Instr × Nat)), il_111.lookup e.1 = some e.2 := by decide +kernel
theorem bo_111_2_e41136 : ∀ e ∈ ([(2, .iload_n 3, 3), (3, .aload_n 0, 4), (4, .iload_n 1, 5), (5, .iconst 1, 6), (6, .iadd, 7)] : List (Nat × Instr × Nat)), il_111.lookup e.1 = some e.2 := by decide +kernel
theorem li_111_7 : il_111.lookup 7 = some (.invokevirtual 129, 10) := by decide +kernel
theorem li_111_10 : il_111.lookup 10 = some (.if_icmp .ge 33, 13) := by decide +kernel
theorem bo_111_43_d85b47 : ∀ e ∈ ([(43, .iconst (-1), 44)] : List (Nat × Instr × Nat)), il_111.lookup e.1 = some e.2 := by decide +kernel
theorem li_111_44 : il_111.lookup 44 = some (.ireturn, 45) := by decide +kernel
theorem bo_111_13_c9553a : ∀ e ∈ ([(13, .aload_n 0, 14), (14, .iload_n 1, 15), (15, .iload_n 2, 16), (16, .iload_n 3, 17)] : List (Nat × Instr × Nat)), il_111.lookup e.1 = some e.2 := by decide +kernel
theorem li_111_17 : il_111.lookup 17 = some (.invokevirtual 205, 20) := by decide +kernel
theorem bo_111_20_725769 : ∀ e ∈ ([(20, .astore 4, 22), (22, .aload 4, 24), (24, .ifnull 13, 27)] : List (Nat × Instr × Nat)), il_111.lookup e.1 = some e.2 := by decide +kernel
theorem bo_111_20_4b3818 : ∀ e ∈ ([(20, .astore 4, 22), (22, .aload 4, 24), (24, .ifnull 13, 27), (27, .aload 4, 29)] : List (Nat × Instr × Nat)), il_111.lookup e.1 = some e.2 := by decide +kernel
theorem li_111_29 : il_111.lookup 29 = some (.invokevirtual 209, 32) := by decide +kernel
theorem li_111_32 : il_111.lookup 32 = some (.ifCond .ne 5, 35) := by decide +kernel
theorem bo_111_35_a976ef : ∀ e ∈ ([(35, .iload_n 3, 36)] : List (Nat × Instr × Nat)), il_111.lookup e.1 = some e.2 := by decide +kernel
theorem li_111_36 : il_111.lookup 36 = some (.ireturn, 37) := by decide +kernel
theorem bo_111_0_264884 : ∀ e ∈ ([(0, .iconst 0, 1), (1, .istore_n 3, 2)] : List (Nat × Instr × Nat)), il_111.lookup e.1 = some e.2 := by decide +kernel
theorem bo_112_11_274bbd : ∀ e ∈ ([(11, .aload_n 0, 12), (12, .iconst (-1), 13)] : List (Nat × Instr × Nat)), il_112.lookup e.1 = some e.2 := by decide +kernel
theorem li_112_13 : il_112.lookup 13 = some (.invokevirtual 52, 16) := by decide +kernel
theorem li_112_16 : il_112.lookup 16 = some (.return_, 17) := by decide +kernel
theorem bo_112_0_8d5162 : ∀ e ∈ ([(0, .aload_n 0, 1)] : List (Nat × Instr × Nat)), il_112.lookup e.1 = some e.2 := by decide +kernel
theorem li_112_1 : il_112.lookup 1 = some (.getfield 35, 4) := by decide +kernel
theorem li_112_4 : il_112.lookup 4 = some (.ifCond .le 7, 7) := by decide +kernel
theorem bo_112_7_9b264f : ∀ e ∈ ([(7, .aload_n 0, 8)] : List (Nat × Instr × Nat)), il_112.lookup e.1 = some e.2 := by decide +kernel
theorem li_112_8 : il_112.lookup 8 = some (.invokevirtual 45, 11) := by decide +kernel
theorem bo_113_55_9f5133 : ∀ e ∈ ([(55, .iinc 4 1, 58), (58, .goto (-35), 61)] : List (Nat × Instr × Nat)), il_113.lookup e.1 = some e.2 := by decide +kernel
theorem bo_113_23_0fb197 : ∀ e ∈ ([(23, .iload 4, 25), (25, .aload_n 0, 26), (26, .iload_n 1, 27), (27, .iconst 1, 28), (28, .iadd, 29)] : List (Nat × Instr × Nat)), il_113.lookup e.1 = some e.2 := by decide +kernel
theorem li_113_29 : il_113.lookup 29 = some (.invokevirtual 129, 32) := by decide +kernel
theorem li_113_32 : il_113.lookup 32 = some (.if_icmp .ge 29, 35) := by decide +kernel
theorem bo_113_61_cd5945 : ∀ e ∈ ([(61, .aload_n 3, 62), (62, .iconst 0, 63)] : List (Nat × Instr × Nat)), il_113.lookup e.1 = some e.2 := by decide +kernel
theorem li_113_63 : il_113.lookup 63 = some (.putfield 153, 66) := by decide +kernel
theorem bo_113_66_831ba3 : ∀ e ∈ ([(66, .iconst 1, 67)] : List (Nat × Instr × Nat)), il_113.lookup e.1 = some e.2 := by decide +kernel
theorem li_113_67 : il_113.lookup 67 = some (.ireturn, 68) := by decide +kernel
theorem bo_113_35_66ed4e : ∀ e ∈ ([(35, .aload_n 0, 36), (36, .iload_n 1, 37), (37, .iload_n 2, 38), (38, .iload 4, 40)] : List (Nat × Instr × Nat)), il_113.lookup e.1 = some e.2 := by decide +kernel
theorem li_113_40 : il_113.lookup 40 = some (.invokevirtual 205, 43) := by decide +kernel
theorem bo_113_43_6dab3c : ∀ e ∈ ([(43, .astore 5, 45), (45, .aload 5, 47), (47, .ifnull 8, 50)] : List (Nat × Instr × Nat)), il_113.lookup e.1 = some e.2 := by decide +kernel
theorem bo_113_43_fd34e5 : ∀ e ∈ ([(43, .astore 5, 45), (45, .aload 5, 47), (47, .ifnull 8, 50), (50, .aload 5, 52)] : List (Nat × Instr × Nat)), il_113.lookup e.1 = some e.2 := by decide +kernel
theorem li_113_52 : il_113.lookup 52 = some (.invokevirtual 270, 55) := by decide +kernel
theorem bo_113_0_8d5162 : ∀ e ∈ ([(0, .aload_n 3, 1)] : List (Nat × Instr × Nat)), il_113.lookup e.1 = some e.2 := by decide +kernel
theorem li_113_1 : il_113.lookup 1 = some (.getfield 153, 4) := by decide +kernel
theorem li_113_4 : il_113.lookup 4 = some (.ifCond .ne 5, 7) := by decide +kernel
theorem bo_113_9_94b225 : ∀ e ∈ ([(9, .aload_n 0, 10), (10, .iload_n 1, 11), (11, .iload_n 2, 12)] : List (Nat × Instr × Nat)), il_113.lookup e.1 = some e.2 := by decide +kernel
theorem li_113_12 : il_113.lookup 12 = some (.invokevirtual 267, 15) := by decide +kernel
theorem li_113_15 : il_113.lookup 15 = some (.ifCond .lt 5, 18) := by decide +kernel
theorem bo_113_20_aa2fda : ∀ e ∈ ([(20, .iconst 0, 21), (21, .istore 4, 23)] : List (Nat × Instr × Nat)), il_113.lookup e.1 = some e.2 := by decide +kernel
theorem bo_113_18_2b31d8 : ∀ e ∈ ([(18, .iconst 0, 19)] : List (Nat × Instr × Nat)), il_113.lookup e.1 = some e.2 := by decide +kernel
theorem li_113_19 : il_113.lookup 19 = some (.ireturn, 20) := by decide +kernel
theorem bo_113_7_9b264f : ∀ e ∈ ([(7, .iconst 1, 8)] : List (Nat × Instr × Nat)), il_113.lookup e.1 = some e.2 := by decide +kernel
theorem li_113_8 : il_113.lookup 8 = some (.ireturn, 9) := by decide +kernel
theorem bo_114_0_8d5162 : ∀ e ∈ ([(0, .aload_n 0, 1)] : List (Nat × Instr × Nat)), il_114.lookup e.1 = some e.2 := by decide +kernel
theorem li_114_1 : il_114.lookup 1 = some (.getfield 135, 4) := by decide +kernel
theorem bo_114_4_e962e2 : ∀ e ∈ ([(4, .aload_n 0, 5)] : List (Nat × Instr × Nat)), il_114.lookup e.1 = some e.2 := by decide +kernel
theorem li_114_5 : il_114.lookup 5 = some (.getfield 23, 8) := by decide +kernel
theorem li_114_8 : il_114.lookup 8 = some (.getfield 156, 11) := by decide +kernel
theorem li_114_11 : il_114.lookup 11 = some (.if_icmp .lt 5, 14) := by decide +kernel
theorem bo_114_16_862b1a : ∀ e ∈ ([(16, .aload_n 2, 17)] : List (Nat × Instr × Nat)), il_114.lookup e.1 = some e.2 := by decide +kernel
theorem li_114_17 : il_114.lookup 17 = some (.getfield 168, 20) := by decide +kernel
theorem bo_114_20_baa9a0 : ∀ e ∈ ([(20, .aload_n 0, 21)] : List (Nat × Instr × Nat)), il_114.lookup e.1 = some e.2 := by decide +kernel
theorem li_114_21 : il_114.lookup 21 = some (.getfield 23, 24) := by decide +kernel
theorem bo_114_24_99aa1d : ∀ e ∈ ([(24, .aload_n 0, 25)] : List (Nat × Instr × Nat)), il_114.lookup e.1 = some e.2 := by decide +kernel
theorem li_114_25 : il_114.lookup 25 = some (.getfield 135, 28) := by decide +kernel
theorem li_114_28 : il_114.lookup 28 = some (.invokevirtual 193, 31) := by decide +kernel
theorem bo_114_31_c379e3 : ∀ e ∈ ([(31, .aload_n 0, 32)] : List (Nat × Instr × Nat)), il_114.lookup e.1 = some e.2 := by decide +kernel
theorem li_114_32 : il_114.lookup 32 = some (.getfield 23, 35) := by decide +kernel
theorem bo_114_35_a976ef : ∀ e ∈ ([(35, .aload_n 0, 36)] : List (Nat × Instr × Nat)), il_114.lookup e.1 = some e.2 := by decide +kernel
theorem li_114_36 : il_114.lookup 36 = some (.getfield 135, 39) := by decide +kernel
theorem li_114_39 : il_114.lookup 39 = some (.invokevirtual 254, 42) := by decide +kernel
theorem bo_114_42_b358e7 : ∀ e ∈ ([(42, .aload_n 0, 43)] : List (Nat × Instr × Nat)), il_114.lookup e.1 = some e.2 := by decide +kernel
theorem li_114_43 : il_114.lookup 43 = some (.getfield 103, 46) := by decide +kernel
theorem li_114_46 : il_114.lookup 46 = some (.invokevirtual 273, 49) := by decide +kernel
theorem bo_114_49_23be2b : ∀ e ∈ ([(49, .aload_n 0, 50), (50, .dup, 51)] : List (Nat × Instr × Nat)), il_114.lookup e.1 = some e.2 := by decide +kernel
theorem li_114_51 : il_114.lookup 51 = some (.getfield 135, 54) := by decide +kernel
theorem bo_114_54_a3ab7c : ∀ e ∈ ([(54, .iconst 1, 55), (55, .iadd, 56)] : List (Nat × Instr × Nat)), il_114.lookup e.1 = some e.2 := by decide +kernel
theorem li_114_56 : il_114.lookup 56 = some (.putfield 135, 59) := by decide +kernel
theorem bo_114_59_d0b94e : ∀ e ∈ ([(59, .aload_n 1, 60), (60, .dup, 61)] : List (Nat × Instr × Nat)), il_114.lookup e.1 = some e.2 := by decide +kernel
theorem li_114_61 : il_114.lookup 61 = some (.getfield 276, 64) := by decide +kernel
theorem bo_114_64_23d05d : ∀ e ∈ ([(64, .iconst 1, 65), (65, .iadd, 66)] : List (Nat × Instr × Nat)), il_114.lookup e.1 = some e.2 := by decide +kernel
theorem li_114_66 : il_114.lookup 66 = some (.putfield 276, 69) := by decide +kernel
theorem bo_114_69_1aaecf : ∀ e ∈ ([(69, .aload_n 1, 70), (70, .dup, 71)] : List (Nat × Instr × Nat)), il_114.lookup e.1 = some e.2 := by decide +kernel
theorem li_114_71 : il_114.lookup 71 = some (.getfield 279, 74) := by decide +kernel
theorem bo_114_74_f61e5a : ∀ e ∈ ([(74, .iconst 1, 75), (75, .iadd, 76)] : List (Nat × Instr × Nat)), il_114.lookup e.1 = some e.2 := by decide +kernel
theorem li_114_76 : il_114.lookup 76 = some (.putfield 279, 79) := by decide +kernel
theorem bo_114_79_febf86 : ∀ e ∈ ([(79, .iconst 1, 80)] : List (Nat × Instr × Nat)), il_114.lookup e.1 = some e.2 := by decide +kernel
theorem li_114_80 : il_114.lookup 80 = some (.ireturn, 81) := by decide +kernel
theorem bo_114_14_3e81ce : ∀ e ∈ ([(14, .iconst 0, 15)] : List (Nat × Instr × Nat)), il_114.lookup e.1 = some e.2 := by decide +kernel
theorem li_114_15 : il_114.lookup 15 = some (.ireturn, 16) := by decide +kernel
theorem bo_115_0_8d5162 : ∀ e ∈ ([(0, .aload_n 0, 1)] : List (Nat × Instr × Nat)), il_115.lookup e.1 = some e.2 := by decide +kernel
theorem li_115_1 : il_115.lookup 1 = some (.getfield 26, 4) := by decide +kernel
theorem li_115_4 : il_115.lookup 4 = some (.ifCond .le 7, 7) := by decide +kernel
theorem bo_115_11_081257 : ∀ e ∈ ([(11, .iconst 0, 12)] : List (Nat × Instr × Nat)), il_115.lookup e.1 = some e.2 := by decide +kernel
theorem li_115_12 : il_115.lookup 12 = some (.ireturn, 13) := by decide +kernel
theorem bo_115_7_7eef78 : ∀ e ∈ ([(7, .iconst 1, 8), (8, .goto 4, 11)] : List (Nat × Instr × Nat)), il_115.lookup e.1 = some e.2 := by decide +kernel
theorem bo_116_103_036b08 : ∀ e ∈ ([(103, .iinc 5 1, 106), (106, .goto (-76), 109)] : List (Nat × Instr × Nat)), il_116.lookup e.1 = some e.2 := by decide +kernel
theorem bo_116_80_9c71c9 : ∀ e ∈ ([(80, .istore 8, 82), (82, .aload 7, 84), (84, .ifnull 19, 87)] : List (Nat × Instr × Nat)), il_116.lookup e.1 = some e.2 := by decide +kernel
theorem bo_116_80_22f1f9 : ∀ e ∈ ([(80, .istore 8, 82), (82, .aload 7, 84), (84, .ifnull 19, 87), (87, .iload 8, 89)] : List (Nat × Instr × Nat)), il_116.lookup e.1 = some e.2 := by decide +kernel
theorem li_116_89 : il_116.lookup 89 = some (.ifCond .ne 14, 92) := by decide +kernel
theorem bo_116_92_b12865 : ∀ e ∈ ([(92, .aload 7, 94)] : List (Nat × Instr × Nat)), il_116.lookup e.1 = some e.2 := by decide +kernel
theorem li_116_94 : il_116.lookup 94 = some (.invokevirtual 218, 97) := by decide +kernel
theorem li_116_97 : il_116.lookup 97 = some (.ifCond .eq 6, 100) := by decide +kernel
theorem bo_116_100_5dd146 : ∀ e ∈ ([(100, .iload 6, 102)] : List (Nat × Instr × Nat)), il_116.lookup e.1 = some e.2 := by decide +kernel
theorem li_116_102 : il_116.lookup 102 = some (.ireturn, 103) := by decide +kernel
theorem bo_116_30_0fc7a9 : ∀ e ∈ ([(30, .iload 5, 32), (32, .iload 4, 34)] : List (Nat × Instr × Nat)), il_116.lookup e.1 = some e.2 := by decide +kernel
theorem li_116_34 : il_116.lookup 34 = some (.if_icmp .ge 75, 37) := by decide +kernel
theorem bo_116_109_9ce450 : ∀ e ∈ ([(109, .iconst (-1), 110)] : List (Nat × Instr × Nat)), il_116.lookup e.1 = some e.2 := by decide +kernel
theorem li_116_110 : il_116.lookup 110 = some (.ireturn, 111) := by decide +kernel
theorem bo_116_37_a21c9f : ∀ e ∈ ([(37, .aload_n 3, 38)] : List (Nat × Instr × Nat)), il_116.lookup e.1 = some e.2 := by decide +kernel
theorem li_116_38 : il_116.lookup 38 = some (.getfield 212, 41) := by decide +kernel
theorem bo_116_41_5a8a19 : ∀ e ∈ ([(41, .iload 5, 43), (43, .iadd, 44), (44, .iload 4, 46)] : List (Nat × Instr × Nat)), il_116.lookup e.1 = some e.2 := by decide +kernel
theorem li_116_46 : il_116.lookup 46 = some (.invokestatic 200, 49) := by decide +kernel
theorem bo_116_49_45463c : ∀ e ∈ ([(49, .istore 6, 51), (51, .aload_n 0, 52), (52, .iload_n 1, 53), (53, .iconst 1, 54), (54, .isub, 55), (55, .iload 6, 57), (57, .iload_n 2, 58)] : List (Nat × Instr × Nat)), il_116.lookup e.1 = some e.2 := by decide +kernel
theorem li_116_58 : il_116.lookup 58 = some (.invokevirtual 205, 61) := by decide +kernel
theorem bo_116_61_c66632 : ∀ e ∈ ([(61, .astore 7, 63), (63, .aload_n 3, 64)] : List (Nat × Instr × Nat)), il_116.lookup e.1 = some e.2 := by decide +kernel
theorem li_116_64 : il_116.lookup 64 = some (.getfield 215, 67) := by decide +kernel
theorem bo_116_67_f0a829 : ∀ e ∈ ([(67, .iload 6, 69), (69, .ishr, 70), (70, .iconst 1, 71), (71, .iand, 72)] : List (Nat × Instr × Nat)), il_116.lookup e.1 = some e.2 := by decide +kernel
theorem li_116_72 : il_116.lookup 72 = some (.ifCond .eq 7, 75) := by decide +kernel
theorem bo_116_79_febf86 : ∀ e ∈ ([(79, .iconst 0, 80)] : List (Nat × Instr × Nat)), il_116.lookup e.1 = some e.2 := by decide +kernel
theorem bo_116_75_c3e58c : ∀ e ∈ ([(75, .iconst 1, 76), (76, .goto 4, 79)] : List (Nat × Instr × Nat)), il_116.lookup e.1 = some e.2 := by decide +kernel
theorem bo_116_0_8b3750 : ∀ e ∈ ([(0, .aload_n 0, 1), (1, .iload_n 1, 2), (2, .iload_n 2, 3)] : List (Nat × Instr × Nat)), il_116.lookup e.1 = some e.2 := by decide +kernel
theorem li_116_3 : il_116.lookup 3 = some (.invokevirtual 141, 6) := by decide +kernel
theorem bo_116_6_1d8488 : ∀ e ∈ ([(6, .astore_n 3, 7), (7, .aload_n 0, 8), (8, .iload_n 1, 9), (9, .iconst 1, 10), (10, .isub, 11)] : List (Nat × Instr × Nat)), il_116.lookup e.1 = some e.2 := by decide +kernel
theorem li_116_11 : il_116.lookup 11 = some (.invokevirtual 129, 14) := by decide +kernel
theorem bo_116_14_1d0da1 : ∀ e ∈ ([(14, .istore 4, 16), (16, .aload_n 3, 17), (17, .ifnull 8, 20), (25, .iconst (-1), 26)] : List (Nat × Instr × Nat)), il_116.lookup e.1 = some e.2 := by decide +kernel
theorem li_116_26 : il_116.lookup 26 = some (.ireturn, 27) := by decide +kernel
theorem bo_116_14_d66257 : ∀ e ∈ ([(14, .istore 4, 16), (16, .aload_n 3, 17), (17, .ifnull 8, 20), (20, .iload 4, 22)] : List (Nat × Instr × Nat)), il_116.lookup e.1 = some e.2 := by decide +kernel
theorem li_116_22 : il_116.lookup 22 = some (.ifCond .gt 5, 25) := by decide +kernel
theorem bo_116_27_fe3fdb : ∀ e ∈ ([(27, .iconst 0, 28), (28, .istore 5, 30)] : List (Nat × Instr × Nat)), il_116.lookup e.1 = some e.2 := by decide +kernel
theorem bo_116_25_1858f6 : ∀ e ∈ ([(25, .iconst (-1), 26)] : List (Nat × Instr × Nat)), il_116.lookup e.1 = some e.2 := by decide +kernel
theorem bo_117_0_8d5162 : ∀ e ∈ ([(0, .aload_n 0, 1)] : List (Nat × Instr × Nat)), il_117.lookup e.1 = some e.2 := by decide +kernel
theorem li_117_1 : il_117.lookup 1 = some (.getfield 26, 4) := by decide +kernel
theorem li_117_4 : il_117.lookup 4 = some (.ifCond .le 22, 7) := by decide +kernel
theorem bo_117_26_bd3b31 : ∀ e ∈ ([(26, .iconst 0, 27)] : List (Nat × Instr × Nat)), il_117.lookup e.1 = some e.2 := by decide +kernel
theorem li_117_27 : il_117.lookup 27 = some (.ireturn, 28) := by decide +kernel
theorem bo_117_7_9b264f : ∀ e ∈ ([(7, .aload_n 0, 8)] : List (Nat × Instr × Nat)), il_117.lookup e.1 = some e.2 := by decide +kernel
theorem li_117_8 : il_117.lookup 8 = some (.getfield 18, 11) := by decide +kernel
theorem bo_117_11_081257 : ∀ e ∈ ([(11, .aload_n 0, 12)] : List (Nat × Instr × Nat)), il_117.lookup e.1 = some e.2 := by decide +kernel
theorem li_117_12 : il_117.lookup 12 = some (.getfield 59, 15) := by decide +kernel
theorem bo_117_15_d45c32 : ∀ e ∈ ([(15, .iconst 3, 16), (16, .iand, 17)] : List (Nat × Instr × Nat)), il_117.lookup e.1 = some e.2 := by decide +kernel
theorem li_117_17 : il_117.lookup 17 = some (.iaload, 18) := by decide +kernel
theorem bo_117_18_2b31d8 : ∀ e ∈ ([(18, .iconst (-1), 19)] : List (Nat × Instr × Nat)), il_117.lookup e.1 = some e.2 := by decide +kernel
theorem li_117_19 : il_117.lookup 19 = some (.if_icmp .ne 7, 22) := by decide +kernel
theorem bo_117_22_13b32e : ∀ e ∈ ([(22, .iconst 1, 23), (23, .goto 4, 26)] : List (Nat × Instr × Nat)), il_117.lookup e.1 = some e.2 := by decide +kernel
theorem bo_118_52_9f6391 : ∀ e ∈ ([(52, .aload_n 0, 53), (53, .aload_n 0, 54)] : List (Nat × Instr × Nat)), il_118.lookup e.1 = some e.2 := by decide +kernel
theorem li_118_54 : il_118.lookup 54 = some (.getfield 59, 57) := by decide +kernel
theorem bo_118_57_331af3 : ∀ e ∈ ([(57, .iconst 1, 58), (58, .iadd, 59), (59, .iconst 3, 60), (60, .iand, 61)] : List (Nat × Instr × Nat)), il_118.lookup e.1 = some e.2 := by decide +kernel
theorem li_118_61 : il_118.lookup 61 = some (.putfield 59, 64) := by decide +kernel
theorem bo_118_64_23d05d : ∀ e ∈ ([(64, .aload_n 0, 65), (65, .dup, 66)] : List (Nat × Instr × Nat)), il_118.lookup e.1 = some e.2 := by decide +kernel
theorem li_118_66 : il_118.lookup 66 = some (.getfield 26, 69) := by decide +kernel
theorem bo_118_69_1aaecf : ∀ e ∈ ([(69, .iconst 1, 70), (70, .isub, 71)] : List (Nat × Instr × Nat)), il_118.lookup e.1 = some e.2 := by decide +kernel
theorem li_118_71 : il_118.lookup 71 = some (.putfield 26, 74) := by decide +kernel
theorem li_118_74 : il_118.lookup 74 = some (.return_, 75) := by decide +kernel
theorem bo_118_0_8d5162 : ∀ e ∈ ([(0, .aload_n 0, 1)] : List (Nat × Instr × Nat)), il_118.lookup e.1 = some e.2 := by decide +kernel
theorem li_118_1 : il_118.lookup 1 = some (.getfield 26, 4) := by decide +kernel
theorem li_118_4 : il_118.lookup 4 = some (.ifCond .gt 4, 7) := by decide +kernel
theorem bo_118_8_383530 : ∀ e ∈ ([(8, .aload_n 0, 9)] : List (Nat × Instr × Nat)), il_118.lookup e.1 = some e.2 := by decide +kernel
theorem li_118_9 : il_118.lookup 9 = some (.getfield 59, 12) := by decide +kernel
theorem bo_118_12_011d94 : ∀ e ∈ ([(12, .iconst 3, 13), (13, .iand, 14), (14, .istore_n 1, 15), (15, .aload_n 0, 16)] : List (Nat × Instr × Nat)), il_118.lookup e.1 = some e.2 := by decide +kernel
theorem li_118_16 : il_118.lookup 16 = some (.getfield 18, 19) := by decide +kernel
theorem bo_118_19_1a8444 : ∀ e ∈ ([(19, .iload_n 1, 20)] : List (Nat × Instr × Nat)), il_118.lookup e.1 = some e.2 := by decide +kernel
theorem li_118_20 : il_118.lookup 20 = some (.iaload, 21) := by decide +kernel
theorem bo_118_21_46c79c : ∀ e ∈ ([(21, .iconst (-1), 22)] : List (Nat × Instr × Nat)), il_118.lookup e.1 = some e.2 := by decide +kernel
theorem li_118_22 : il_118.lookup 22 = some (.if_icmp .eq 30, 25) := by decide +kernel
theorem bo_118_25_1858f6 : ∀ e ∈ ([(25, .aload_n 0, 26)] : List (Nat × Instr × Nat)), il_118.lookup e.1 = some e.2 := by decide +kernel
theorem li_118_26 : il_118.lookup 26 = some (.getfield 12, 29) := by decide +kernel
theorem li_118_29 : il_118.lookup 29 = some (.invokevirtual 62, 32) := by decide +kernel
theorem bo_118_32_191034 : ∀ e ∈ ([(32, .aload_n 0, 33)] : List (Nat × Instr × Nat)), il_118.lookup e.1 = some e.2 := by decide +kernel
theorem li_118_33 : il_118.lookup 33 = some (.getfield 18, 36) := by decide +kernel
theorem bo_118_36_285c9e : ∀ e ∈ ([(36, .iload_n 1, 37), (37, .dup2, 38)] : List (Nat × Instr × Nat)), il_118.lookup e.1 = some e.2 := by decide +kernel
theorem li_118_38 : il_118.lookup 38 = some (.iaload, 39) := by decide +kernel
theorem bo_118_39_9c41c6 : ∀ e ∈ ([(39, .iconst 1, 40), (40, .isub, 41)] : List (Nat × Instr × Nat)), il_118.lookup e.1 = some e.2 := by decide +kernel
theorem li_118_41 : il_118.lookup 41 = some (.iastore, 42) := by decide +kernel
theorem bo_118_42_b358e7 : ∀ e ∈ ([(42, .aload_n 0, 43)] : List (Nat × Instr × Nat)), il_118.lookup e.1 = some e.2 := by decide +kernel
theorem li_118_43 : il_118.lookup 43 = some (.getfield 18, 46) := by decide +kernel
theorem bo_118_46_4b02d4 : ∀ e ∈ ([(46, .iload_n 1, 47)] : List (Nat × Instr × Nat)), il_118.lookup e.1 = some e.2 := by decide +kernel
theorem li_118_47 : il_118.lookup 47 = some (.iaload, 48) := by decide +kernel
theorem li_118_48 : il_118.lookup 48 = some (.ifCond .le 4, 51) := by decide +kernel
theorem li_118_51 : il_118.lookup 51 = some (.return_, 52) := by decide +kernel
theorem li_118_7 : il_118.lookup 7 = some (.return_, 8) := by decide +kernel
theorem bo_119_0_f744e6 : ∀ e ∈ ([(0, .iload_n 2, 1), (1, .bipush 15, 3), (3, .iand, 4), (4, .istore_n 3, 5), (5, .iconst 1, 6), (6, .iload_n 3, 7), (7, .ishl, 8), (8, .istore 4, 10), (10, .aload_n 0, 11)] : List (Nat × Instr × Nat)), il_119.lookup e.1 = some e.2 := by decide +kernel
theorem li_119_11 : il_119.lookup 11 = some (.getfield 9, 14) := by decide +kernel
theorem bo_119_14_4d7356 : ∀ e ∈ ([(14, .iload_n 3, 15), (15, .aload_n 1, 16)] : List (Nat × Instr × Nat)), il_119.lookup e.1 = some e.2 := by decide +kernel
theorem li_119_16 : il_119.lookup 16 = some (.getfield 9, 19) := by decide +kernel
theorem bo_119_19_1a8444 : ∀ e ∈ ([(19, .iload_n 3, 20)] : List (Nat × Instr × Nat)), il_119.lookup e.1 = some e.2 := by decide +kernel
theorem li_119_20 : il_119.lookup 20 = some (.iaload, 21) := by decide +kernel
theorem li_119_21 : il_119.lookup 21 = some (.iastore, 22) := by decide +kernel
theorem bo_119_22_60ac31 : ∀ e ∈ ([(22, .aload_n 0, 23)] : List (Nat × Instr × Nat)), il_119.lookup e.1 = some e.2 := by decide +kernel
theorem li_119_23 : il_119.lookup 23 = some (.getfield 15, 26) := by decide +kernel
theorem bo_119_26_539da0 : ∀ e ∈ ([(26, .iload_n 3, 27), (27, .aload_n 1, 28)] : List (Nat × Instr × Nat)), il_119.lookup e.1 = some e.2 := by decide +kernel
theorem li_119_28 : il_119.lookup 28 = some (.getfield 15, 31) := by decide +kernel
theorem bo_119_31_c379e3 : ∀ e ∈ ([(31, .iload_n 3, 32)] : List (Nat × Instr × Nat)), il_119.lookup e.1 = some e.2 := by decide +kernel
theorem li_119_32 : il_119.lookup 32 = some (.iaload, 33) := by decide +kernel
theorem li_119_33 : il_119.lookup 33 = some (.iastore, 34) := by decide +kernel
theorem bo_119_34_812988 : ∀ e ∈ ([(34, .aload_n 0, 35), (35, .aload_n 0, 36)] : List (Nat × Instr × Nat)), il_119.lookup e.1 = some e.2 := by decide +kernel
theorem li_119_36 : il_119.lookup 36 = some (.getfield 18, 39) := by decide +kernel
theorem bo_119_39_6f9b56 : ∀ e ∈ ([(39, .iload 4, 41), (41, .iconst (-1), 42), (42, .ixor, 43), (43, .iand, 44), (44, .aload_n 1, 45)] : List (Nat × Instr × Nat)), il_119.lookup e.1 = some e.2 := by decide +kernel
theorem li_119_45 : il_119.lookup 45 = some (.getfield 18, 48) := by decide +kernel
theorem bo_119_48_3c8c47 : ∀ e ∈ ([(48, .iload 4, 50), (50, .iand, 51), (51, .ior, 52)] : List (Nat × Instr × Nat)), il_119.lookup e.1 = some e.2 := by decide +kernel
theorem li_119_52 : il_119.lookup 52 = some (.putfield 18, 55) := by decide +kernel
theorem li_119_55 : il_119.lookup 55 = some (.return_, 56) := by decide +kernel
theorem bo_120_33_4d8e72 : ∀ e ∈ ([(33, .iinc 2 1, 36), (36, .goto (-34), 39)] : List (Nat × Instr × Nat)), il_120.lookup e.1 = some e.2 := by decide +kernel
theorem bo_120_2_d916f9 : ∀ e ∈ ([(2, .iload_n 2, 3), (3, .bipush 16, 5)] : List (Nat × Instr × Nat)), il_120.lookup e.1 = some e.2 := by decide +kernel
theorem li_120_5 : il_120.lookup 5 = some (.if_icmp .ge 34, 8) := by decide +kernel
theorem li_120_39 : il_120.lookup 39 = some (.return_, 40) := by decide +kernel
theorem bo_120_8_325fca : ∀ e ∈ ([(8, .aload_n 0, 9), (9, .iload_n 2, 10), (10, .aload_n 0, 11)] : List (Nat × Instr × Nat)), il_120.lookup e.1 = some e.2 := by decide +kernel
theorem li_120_11 : il_120.lookup 11 = some (.getfield 57, 14) := by decide +kernel
theorem li_120_14 : il_120.lookup 14 = some (.invokevirtual 64, 17) := by decide +kernel
theorem bo_120_17_509256 : ∀ e ∈ ([(17, .iload_n 1, 18)] : List (Nat × Instr × Nat)), il_120.lookup e.1 = some e.2 := by decide +kernel
theorem li_120_18 : il_120.lookup 18 = some (.if_icmp .ne 15, 21) := by decide +kernel
theorem bo_120_21_46c79c : ∀ e ∈ ([(21, .aload_n 0, 22)] : List (Nat × Instr × Nat)), il_120.lookup e.1 = some e.2 := by decide +kernel
theorem li_120_22 : il_120.lookup 22 = some (.getfield 24, 25) := by decide +kernel
theorem bo_120_25_1858f6 : ∀ e ∈ ([(25, .aload_n 0, 26)] : List (Nat × Instr × Nat)), il_120.lookup e.1 = some e.2 := by decide +kernel
theorem li_120_26 : il_120.lookup 26 = some (.getfield 20, 29) := by decide +kernel
theorem bo_120_29_2d7a5f : ∀ e ∈ ([(29, .iload_n 2, 30)] : List (Nat × Instr × Nat)), il_120.lookup e.1 = some e.2 := by decide +kernel
theorem li_120_30 : il_120.lookup 30 = some (.invokevirtual 94, 33) := by decide +kernel
theorem bo_120_0_264884 : ∀ e ∈ ([(0, .iconst 0, 1), (1, .istore_n 2, 2)] : List (Nat × Instr × Nat)), il_120.lookup e.1 = some e.2 := by decide +kernel
theorem bo_121_0_264884 : ∀ e ∈ ([(0, .aload_n 3, 1), (1, .iconst 0, 2)] : List (Nat × Instr × Nat)), il_121.lookup e.1 = some e.2 := by decide +kernel
theorem li_121_2 : il_121.lookup 2 = some (.putfield 215, 5) := by decide +kernel
theorem bo_121_5_ca77c4 : ∀ e ∈ ([(5, .aload_n 3, 6), (6, .aload_n 3, 7)] : List (Nat × Instr × Nat)), il_121.lookup e.1 = some e.2 := by decide +kernel
theorem li_121_7 : il_121.lookup 7 = some (.getfield 145, 10) := by decide +kernel
theorem li_121_10 : il_121.lookup 10 = some (.putfield 150, 13) := by decide +kernel
theorem bo_121_13_1f05a9 : ∀ e ∈ ([(13, .aload_n 2, 14), (14, .iload_n 1, 15)] : List (Nat × Instr × Nat)), il_121.lookup e.1 = some e.2 := by decide +kernel
theorem li_121_15 : il_121.lookup 15 = some (.invokevirtual 305, 18) := by decide +kernel
theorem bo_121_18_2b31d8 : ∀ e ∈ ([(18, .aload_n 2, 19)] : List (Nat × Instr × Nat)), il_121.lookup e.1 = some e.2 := by decide +kernel
theorem li_121_19 : il_121.lookup 19 = some (.getfield 295, 22) := by decide +kernel
theorem bo_121_22_60ac31 : ∀ e ∈ ([(22, .bipush 8, 24)] : List (Nat × Instr × Nat)), il_121.lookup e.1 = some e.2 := by decide +kernel
theorem li_121_24 : il_121.lookup 24 = some (.if_icmp .ne 16, 27) := by decide +kernel
theorem bo_121_40_20557d : ∀ e ∈ ([(40, .aload_n 3, 41), (41, .iconst 1, 42)] : List (Nat × Instr × Nat)), il_121.lookup e.1 = some e.2 := by decide +kernel
theorem li_121_42 : il_121.lookup 42 = some (.putfield 153, 45) := by decide +kernel
theorem li_121_45 : il_121.lookup 45 = some (.return_, 46) := by decide +kernel
theorem bo_121_27_fe3fdb : ∀ e ∈ ([(27, .aload_n 0, 28), (28, .dup, 29)] : List (Nat × Instr × Nat)), il_121.lookup e.1 = some e.2 := by decide +kernel
theorem li_121_29 : il_121.lookup 29 = some (.getfield 132, 32) := by decide +kernel
theorem bo_121_32_dac25e : ∀ e ∈ ([(32, .iconst 1, 33), (33, .isub, 34)] : List (Nat × Instr × Nat)), il_121.lookup e.1 = some e.2 := by decide +kernel
theorem li_121_34 : il_121.lookup 34 = some (.putfield 132, 37) := by decide +kernel
theorem bo_121_37_a21c9f : ∀ e ∈ ([(37, .goto 8, 40)] : List (Nat × Instr × Nat)), il_121.lookup e.1 = some e.2 := by decide +kernel
theorem e_op_resetCounters_30 {d : Nat} (hd : 1 ≤ d) (k10 : Nat → Int32 → Int32 → Mem → Option (Mem)) (hk10 : ∀ l1 l2 l3 M r, k10 l1 l2 l3 M = some r → EV d 60 10 [none, some (.ref l1), some (.int l2), some (.int l3), none] [] M (none, r)) (l1 : Nat) (l2 : Int32) (l3 : Int32) (M : Mem) (r : Mem) (h : f_op_resetCounters_30 k10 l1 l2 l3 M = some r) : EV d 60 30 [none, some (.ref l1), some (.int l2), some (.int l3), none] [] M (none, r) := by
  unfold f_op_resetCounters_30 at h
  refine EV_stq mx_60 (pc' := 10) (L' := [none, some (.ref l1), some (.int l2), some (.int (l3 + (1 : Int32))), none]) (st' := []) bo_60_30_c7d85e rfl ?_
  exact hk10 l1 l2 (l3 + (1 : Int32)) M r h
theorem e_op_resetCounters_10 {d : Nat} (hd : 1 ≤ d) : ∀ (n : Nat) (l1 : Nat) (l2 : Int32) (l3 : Int32) (M : Mem) (r : Mem), f_op_resetCounters_10 n l1 l2 l3 M = some r → EV d 60 10 [none, some (.ref l1), some (.int l2), some (.int l3), none] [] M (none, r) := by
  intro n
  induction n with
  | zero => intro l1 l2 l3 M r h; cases h
  | succ n ih =>
    intro l1 l2 l3 M r h
    unfold f_op_resetCounters_10 at h
    refine EV_stq mx_60 (pc' := 12) (L' := [none, some (.ref l1), some (.int l2), some (.int l3), none]) (st' := [.int l2, .int l3]) bo_60_10_42a704 rfl ?_
    refine h_ge h (fun h hc => ?_) (fun h hc => ?_)
    · refine r_icT mx_60 li_60_12 (by decide) rfl hc ?_
      obtain rfl := Option.some.inj h
      exact r_ret mx_60 li_60_36 rfl rfl
    · refine r_icF mx_60 li_60_12 (by decide) hc ?_
      refine EV_stq mx_60 (pc' := 17) (L' := [none, some (.ref l1), some (.int l2), some (.int l3), none]) (st' := [.int l3, .ref l1]) bo_60_15_d45c32 rfl ?_
      refine r_aA mx_60 li_60_17 h (fun a1 h => ?_)
      refine EV_stq mx_60 (pc' := 27) (L' := [none, some (.ref l1), some (.int l2), some (.int l3), some (.ref a1)]) (st' := [.ref a1]) bo_60_18_09e76f rfl ?_
      refine h_ck h (fun hc h => ?_)
      refine h_cV h (fun M2 e h => ?_)
      refine EV_call [.ref a1] [] mx_60 li_60_27 rfl rfl si_8_86 rfl (by decide) (by decide) (by omega) ma_59 rfl (Nat.le_of_ble_eq_true rfl) rfl rfl (Nat.le_of_ble_eq_true rfl) (rc_1 mt_at_59 rfl rfl (by decide) hc) (e_is_resetCounters (by omega) a1 M _ e) ?_
      show EV d 60 30 [none, some (.ref l1), some (.int l2), some (.int l3), some (.ref a1)] [] M2 _
      refine EV_forget (A := [none, some (.ref l1), some (.int l2), some (.int l3), none]) (lsub_of _ _ ⟨Or.inl rfl, ⟨Or.inr rfl, ⟨Or.inr rfl, ⟨Or.inr rfl, ⟨Or.inl rfl, trivial⟩⟩⟩⟩⟩) ?_
      exact e_op_resetCounters_30 hd _ ih l1 l2 l3 M2 r h
theorem e_op_resetCounters {d : Nat} (hd : 1 ≤ d) (p0 : Nat) (M : Mem) (r : Mem) (h : f_op_resetCounters p0 M = some r) : EV d 60 0 (entL 5 [.ref p0]) [] M (none, r) := by
  show EV d 60 0 [some (.ref p0), none, none, none, none] [] M _
  unfold f_op_resetCounters at h
  refine EV_stq mx_60 (pc' := 1) (L' := [some (.ref p0), none, none, none, none]) (st' := [.ref p0]) bo_60_0_8d5162 rfl ?_
  refine r_gA mx_60 li_60_1 fd_8_11 rfl h (fun a1 h => ?_)
  refine EV_stq mx_60 (pc' := 6) (L' := [some (.ref p0), some (.ref a1), none, none, none]) (st' := [.ref a1]) bo_60_4_40e659 rfl ?_
  refine r_aN mx_60 li_60_6 h (fun v2 h => ?_)
  refine EV_stq mx_60 (pc' := 10) (L' := [some (.ref p0), some (.ref a1), some (.int v2), some (.int (0 : Int32)), none]) (st' := []) bo_60_7_6bece7 rfl ?_
  refine EV_forget (A := [none, some (.ref a1), some (.int v2), some (.int (0 : Int32)), none]) (lsub_of _ _ ⟨Or.inl rfl, ⟨Or.inr rfl, ⟨Or.inr rfl, ⟨Or.inr rfl, ⟨Or.inl rfl, trivial⟩⟩⟩⟩⟩) ?_
  exact e_op_resetCounters_10 hd FU a1 v2 (0 : Int32) M r h
theorem e_op_forgetAll {d : Nat} (hd : 2 ≤ d) (p0 : Nat) (M : Mem) (r : Mem) (h : f_op_forgetAll p0 M = some r) : EV d 61 0 (entL 1 [.ref p0]) [] M (none, r) := by
  show EV d 61 0 [some (.ref p0)] [] M _
  unfold f_op_forgetAll at h
  refine EV_stq mx_61 (pc' := 1) (L' := [some (.ref p0)]) (st' := [.ref p0]) bo_61_0_8d5162 rfl ?_
  refine r_gA mx_61 li_61_1 fd_8_27 rfl h (fun a1 h => ?_)
  refine h_ck h (fun hc h => ?_)
  refine h_cV h (fun M2 e h => ?_)
  refine EV_call [.ref a1] [] mx_61 li_61_4 rfl rfl si_8_68 rfl (by decide) (by decide) (by omega) ma_58 rfl (Nat.le_of_ble_eq_true rfl) rfl rfl (Nat.le_of_ble_eq_true rfl) (rc_1 mt_at_58 rfl rfl (by decide) hc) (e_ky_wipe (by omega) a1 M _ e) ?_
  show EV d 61 7 [some (.ref p0)] [] M2 _
  refine EV_stq mx_61 (pc' := 9) (L' := [some (.ref p0)]) (st' := [.int (0 : Int32), .ref p0]) bo_61_7_7eef78 rfl ?_
  refine r_pI mx_61 li_61_9 fd_8_71 (Or.inl rfl) rfl h (fun M3 h => ?_)
  refine EV_stq mx_61 (pc' := 14) (L' := [some (.ref p0)]) (st' := [.int (0 : Int32), .ref p0]) bo_61_12_1089ca rfl ?_
  refine r_pI mx_61 li_61_14 fd_8_74 (Or.inl rfl) rfl h (fun M4 h => ?_)
  refine EV_stq mx_61 (pc' := 19) (L' := [some (.ref p0)]) (st' := [.int (0 : Int32), .ref p0]) bo_61_17_03196b rfl ?_
  refine r_pI mx_61 li_61_19 fd_8_77 (Or.inl rfl) rfl h (fun M5 h => ?_)
  refine EV_stq mx_61 (pc' := 24) (L' := [some (.ref p0)]) (st' := [.int (0 : Int32), .ref p0]) bo_61_22_13b32e rfl ?_
  refine r_pI mx_61 li_61_24 fd_8_80 (Or.inl rfl) rfl h (fun M6 h => ?_)
  refine EV_stq mx_61 (pc' := 28) (L' := [some (.ref p0)]) (st' := [.ref p0]) bo_61_27_58fada rfl ?_
  refine h_ck h (fun hc h => ?_)
  refine h_cV h (fun M7 e h => ?_)
  refine EV_call [.ref p0] [] mx_61 li_61_28 rfl rfl si_8_83 rfl (by decide) (by decide) (by omega) ma_60 rfl (Nat.le_of_ble_eq_true rfl) rfl rfl (Nat.le_of_ble_eq_true rfl) (rc_1 mt_at_60 rfl rfl (by decide) hc) (e_op_resetCounters (by omega) p0 M6 _ e) ?_
  show EV d 61 31 [some (.ref p0)] [] M7 _
  obtain rfl := Option.some.inj h
  exact r_ret mx_61 li_61_31 rfl rfl
theorem e_la_wipe {d : Nat} (hd : 1 ≤ d) (p0 : Nat) (M : Mem) (r : Mem) (h : f_la_wipe p0 M = some r) : EV d 62 0 (entL 1 [.ref p0]) [] M (none, r) := by
  show EV d 62 0 [some (.ref p0)] [] M _
  unfold f_la_wipe at h
  refine EV_stq mx_62 (pc' := 1) (L' := [some (.ref p0)]) (st' := [.ref p0]) bo_62_0_8d5162 rfl ?_
  refine r_gA mx_62 li_62_1 fd_5_7 rfl h (fun a1 h => ?_)
  refine EV_stq mx_62 (pc' := 5) (L' := [some (.ref p0)]) (st' := [.int (0 : Int32), .ref a1]) bo_62_4_e962e2 rfl ?_
  refine h_cV h (fun M2 e h => ?_)
  refine EV_call [.ref a1, .int (0 : Int32)] [] mx_62 li_62_5 rfl rfl si_5_38 rfl (by decide) (by decide) (by omega) ma_57 rfl (Nat.le_of_ble_eq_true rfl) rfl rfl (Nat.le_of_ble_eq_true rfl) rfl (e_ar_fill (by omega) a1 (0 : Int32) M _ e) ?_
  show EV d 62 8 [some (.ref p0)] [] M2 _
  refine EV_stq mx_62 (pc' := 10) (L' := [some (.ref p0)]) (st' := [.int (0 : Int32), .ref p0]) bo_62_8_0adad6 rfl ?_
  refine r_pI mx_62 li_62_10 fd_5_29 (Or.inl rfl) rfl h (fun M3 h => ?_)
  refine EV_stq mx_62 (pc' := 15) (L' := [some (.ref p0)]) (st' := [.int (0 : Int32), .ref p0]) bo_62_13_1f05a9 rfl ?_
  refine r_pI mx_62 li_62_15 fd_5_33 (Or.inl rfl) rfl h (fun M4 h => ?_)
  obtain rfl := Option.some.inj h
  exact r_ret mx_62 li_62_18 rfl rfl
theorem e_rc_wipe {d : Nat} (hd : 0 ≤ d) (p0 : Nat) (M : Mem) (r : Mem) (h : f_rc_wipe p0 M = some r) : EV d 63 0 (entL 1 [.ref p0]) [] M (none, r) := by
  show EV d 63 0 [some (.ref p0)] [] M _
  unfold f_rc_wipe at h
  refine EV_stq mx_63 (pc' := 2) (L' := [some (.ref p0)]) (st' := [.int (0 : Int32), .ref p0]) bo_63_0_264884 rfl ?_
  refine r_pI mx_63 li_63_2 fd_4_26 (Or.inl rfl) rfl h (fun M1 h => ?_)
  refine EV_stq mx_63 (pc' := 7) (L' := [some (.ref p0)]) (st' := [.int (0 : Int32), .ref p0]) bo_63_5_ca77c4 rfl ?_
  refine r_pI mx_63 li_63_7 fd_4_23 (Or.inl rfl) rfl h (fun M2 h => ?_)
  obtain rfl := Option.some.inj h
  exact r_ret mx_63 li_63_10 rfl rfl
theorem e_ch_wipe {d : Nat} (hd : 1 ≤ d) (p0 : Nat) (M : Mem) (r : Mem) (h : f_ch_wipe p0 M = some r) : EV d 64 0 (entL 1 [.ref p0]) [] M (none, r) := by
  show EV d 64 0 [some (.ref p0)] [] M _
  unfold f_ch_wipe at h
  refine EV_stq mx_64 (pc' := 1) (L' := [some (.ref p0)]) (st' := [.ref p0]) bo_64_0_8d5162 rfl ?_
  refine r_gA mx_64 li_64_1 fd_9_12 rfl h (fun a1 h => ?_)
  refine h_ck h (fun hc h => ?_)
  refine h_cV h (fun M2 e h => ?_)
  refine EV_call [.ref a1] [] mx_64 li_64_4 rfl rfl si_9_65 rfl (by decide) (by decide) (by omega) ma_63 rfl (Nat.le_of_ble_eq_true rfl) rfl rfl (Nat.le_of_ble_eq_true rfl) (rc_1 mt_at_63 rfl rfl (by decide) hc) (e_rc_wipe (by omega) a1 M _ e) ?_
  show EV d 64 7 [some (.ref p0)] [] M2 _
  refine EV_stq mx_64 (pc' := 9) (L' := [some (.ref p0)]) (st' := [.int (0 : Int32), .ref p0]) bo_64_7_7eef78 rfl ?_
  refine r_pI mx_64 li_64_9 fd_9_59 (Or.inl rfl) rfl h (fun M3 h => ?_)
  refine EV_stq mx_64 (pc' := 14) (L' := [some (.ref p0)]) (st' := [.int (0 : Int32), .ref p0]) bo_64_12_1089ca rfl ?_
  refine r_pI mx_64 li_64_14 fd_9_26 (Or.inl rfl) rfl h (fun M4 h => ?_)
  refine EV_stq mx_64 (pc' := 19) (L' := [some (.ref p0)]) (st' := [.int (0 : Int32), .ref p0]) bo_64_17_03196b rfl ?_
  refine r_pI mx_64 li_64_19 fd_9_35 (Or.inl rfl) rfl h (fun M5 h => ?_)
  refine EV_stq mx_64 (pc' := 24) (L' := [some (.ref p0)]) (st' := [.int (0 : Int32), .ref p0]) bo_64_22_13b32e rfl ?_
  refine r_pI mx_64 li_64_24 fd_9_55 (Or.inl rfl) rfl h (fun M6 h => ?_)
  obtain rfl := Option.some.inj h
  exact r_ret mx_64 li_64_27 rfl rfl
theorem e_ky_copyAll {d : Nat} (hd : 1 ≤ d) (p0 : Nat) (p1 : Nat) (M : Mem) (r : Mem) (h : f_ky_copyAll p0 p1 M = some r) : EV d 65 0 (entL 2 [.ref p0, .ref p1]) [] M (none, r) := by
  show EV d 65 0 [some (.ref p0), some (.ref p1)] [] M _
  unfold f_ky_copyAll at h
  refine EV_stq mx_65 (pc' := 1) (L' := [some (.ref p0), some (.ref p1)]) (st' := [.ref p1]) bo_65_0_8d5162 rfl ?_
  refine r_gA mx_65 li_65_1 fd_6_9 rfl h (fun a1 h => ?_)
  refine EV_stq mx_65 (pc' := 6) (L' := [some (.ref p0), some (.ref p1)]) (st' := [.ref p0, .int (0 : Int32), .ref a1]) bo_65_4_40e659 rfl ?_
  refine r_gA mx_65 li_65_6 fd_6_9 rfl h (fun a2 h => ?_)
  refine EV_stq mx_65 (pc' := 12) (L' := [some (.ref p0), some (.ref p1)]) (st' := [.int (16 : Int32), .int (0 : Int32), .ref a2, .int (0 : Int32), .ref a1]) bo_65_9_16efa2 rfl ?_
  refine r_cp mx_65 li_65_12 si_6_22 rfl (by omega) (Nat.le_of_ble_eq_true rfl) h (fun M3 h => ?_)
  refine EV_stq mx_65 (pc' := 16) (L' := [some (.ref p0), some (.ref p1)]) (st' := [.ref p1]) bo_65_15_be4250 rfl ?_
  refine r_gA mx_65 li_65_16 fd_6_15 rfl h (fun a4 h => ?_)
  refine EV_stq mx_65 (pc' := 21) (L' := [some (.ref p0), some (.ref p1)]) (st' := [.ref p0, .int (0 : Int32), .ref a4]) bo_65_19_643a70 rfl ?_
  refine r_gA mx_65 li_65_21 fd_6_15 rfl h (fun a5 h => ?_)
  refine EV_stq mx_65 (pc' := 27) (L' := [some (.ref p0), some (.ref p1)]) (st' := [.int (16 : Int32), .int (0 : Int32), .ref a5, .int (0 : Int32), .ref a4]) bo_65_24_35ae4e rfl ?_
  refine r_cp mx_65 li_65_27 si_6_22 rfl (by omega) (Nat.le_of_ble_eq_true rfl) h (fun M6 h => ?_)
  refine EV_stq mx_65 (pc' := 32) (L' := [some (.ref p0), some (.ref p1)]) (st' := [.ref p1, .ref p0]) bo_65_30_e4fc54 rfl ?_
  refine r_gI mx_65 li_65_32 fd_6_18 ⟨by decide, by decide⟩ h (fun v7 h => ?_)
  refine r_pI mx_65 li_65_35 fd_6_18 (Or.inl rfl) rfl h (fun M8 h => ?_)
  obtain rfl := Option.some.inj h
  exact r_ret mx_65 li_65_38 rfl rfl
theorem e_is_returnToSaved {d : Nat} (hd : 1 ≤ d) (p0 : Nat) (M : Mem) (r : Mem) (h : f_is_returnToSaved p0 M = some r) : EV d 66 0 (entL 1 [.ref p0]) [] M (none, r) := by
  show EV d 66 0 [some (.ref p0)] [] M _
  unfold f_is_returnToSaved at h
  refine EV_stq mx_66 (pc' := 1) (L' := [some (.ref p0)]) (st' := [.ref p0]) bo_66_0_8d5162 rfl ?_
  refine r_gA mx_66 li_66_1 fd_7_12 rfl h (fun a1 h => ?_)
  refine h_ck h (fun hc h => ?_)
  refine h_cV h (fun M2 e h => ?_)
  refine EV_call [.ref a1] [] mx_66 li_66_4 rfl rfl si_7_25 rfl (by decide) (by decide) (by omega) ma_63 rfl (Nat.le_of_ble_eq_true rfl) rfl rfl (Nat.le_of_ble_eq_true rfl) (rc_1 mt_at_63 rfl rfl (by decide) hc) (e_rc_wipe (by omega) a1 M _ e) ?_
  show EV d 66 7 [some (.ref p0)] [] M2 _
  refine EV_stq mx_66 (pc' := 9) (L' := [some (.ref p0)]) (st' := [.int (0 : Int32), .ref p0]) bo_66_7_7eef78 rfl ?_
  refine r_pZ mx_66 li_66_9 fd_7_28 (Or.inl rfl) rfl h (fun M3 h => ?_)
  refine EV_stq mx_66 (pc' := 14) (L' := [some (.ref p0)]) (st' := [.int (0 : Int32), .ref p0]) bo_66_12_1089ca rfl ?_
  refine r_pI mx_66 li_66_14 fd_7_32 (Or.inl rfl) rfl h (fun M4 h => ?_)
  refine EV_stq mx_66 (pc' := 19) (L' := [some (.ref p0)]) (st' := [.int (0 : Int32), .ref p0]) bo_66_17_03196b rfl ?_
  refine r_pI mx_66 li_66_19 fd_7_35 (Or.inl rfl) rfl h (fun M5 h => ?_)
  refine EV_stq mx_66 (pc' := 24) (L' := [some (.ref p0)]) (st' := [.ref p0, .ref p0]) bo_66_22_13b32e rfl ?_
  refine r_gI mx_66 li_66_24 fd_7_22 ⟨by decide, by decide⟩ h (fun v6 h => ?_)
  refine r_pI mx_66 li_66_27 fd_7_18 (Or.inl rfl) rfl h (fun M7 h => ?_)
  obtain rfl := Option.some.inj h
  exact r_ret mx_66 li_66_30 rfl rfl
theorem e_op_returnToSaved_41 {d : Nat} (hd : 2 ≤ d) (k21 : Nat → Int32 → Int32 → Mem → Option (Mem)) (hk21 : ∀ l1 l2 l3 M r, k21 l1 l2 l3 M = some r → EV d 67 21 [none, some (.ref l1), some (.int l2), some (.int l3), none] [] M (none, r)) (l1 : Nat) (l2 : Int32) (l3 : Int32) (M : Mem) (r : Mem) (h : f_op_returnToSaved_41 k21 l1 l2 l3 M = some r) : EV d 67 41 [none, some (.ref l1), some (.int l2), some (.int l3), none] [] M (none, r) := by
  unfold f_op_returnToSaved_41 at h
  refine EV_stq mx_67 (pc' := 21) (L' := [none, some (.ref l1), some (.int l2), some (.int (l3 + (1 : Int32))), none]) (st' := []) bo_67_41_8598b5 rfl ?_
  exact hk21 l1 l2 (l3 + (1 : Int32)) M r h
theorem e_op_returnToSaved_21 {d : Nat} (hd : 2 ≤ d) : ∀ (n : Nat) (l1 : Nat) (l2 : Int32) (l3 : Int32) (M : Mem) (r : Mem), f_op_returnToSaved_21 n l1 l2 l3 M = some r → EV d 67 21 [none, some (.ref l1), some (.int l2), some (.int l3), none] [] M (none, r) := by
  intro n
  induction n with
  | zero => intro l1 l2 l3 M r h; cases h
  | succ n ih =>
    intro l1 l2 l3 M r h
    unfold f_op_returnToSaved_21 at h
    refine EV_stq mx_67 (pc' := 23) (L' := [none, some (.ref l1), some (.int l2), some (.int l3), none]) (st' := [.int l2, .int l3]) bo_67_21_13696e rfl ?_
    refine h_ge h (fun h hc => ?_) (fun h hc => ?_)
    · refine r_icT mx_67 li_67_23 (by decide) rfl hc ?_
      obtain rfl := Option.some.inj h
      exact r_ret mx_67 li_67_47 rfl rfl
    · refine r_icF mx_67 li_67_23 (by decide) hc ?_
      refine EV_stq mx_67 (pc' := 28) (L' := [none, some (.ref l1), some (.int l2), some (.int l3), none]) (st' := [.int l3, .ref l1]) bo_67_26_539da0 rfl ?_
      refine r_aA mx_67 li_67_28 h (fun a1 h => ?_)
      refine EV_stq mx_67 (pc' := 38) (L' := [none, some (.ref l1), some (.int l2), some (.int l3), some (.ref a1)]) (st' := [.ref a1]) bo_67_29_e011ae rfl ?_
      refine h_ck h (fun hc h => ?_)
      refine h_cV h (fun M2 e h => ?_)
      refine EV_call [.ref a1] [] mx_67 li_67_38 rfl rfl si_8_91 rfl (by decide) (by decide) (by omega) ma_66 rfl (Nat.le_of_ble_eq_true rfl) rfl rfl (Nat.le_of_ble_eq_true rfl) (rc_1 mt_at_66 rfl rfl (by decide) hc) (e_is_returnToSaved (by omega) a1 M _ e) ?_
      show EV d 67 41 [none, some (.ref l1), some (.int l2), some (.int l3), some (.ref a1)] [] M2 _
      refine EV_forget (A := [none, some (.ref l1), some (.int l2), some (.int l3), none]) (lsub_of _ _ ⟨Or.inl rfl, ⟨Or.inr rfl, ⟨Or.inr rfl, ⟨Or.inr rfl, ⟨Or.inl rfl, trivial⟩⟩⟩⟩⟩) ?_
      exact e_op_returnToSaved_41 hd _ ih l1 l2 l3 M2 r h
theorem e_op_returnToSaved {d : Nat} (hd : 2 ≤ d) (p0 : Nat) (M : Mem) (r : Mem) (h : f_op_returnToSaved p0 M = some r) : EV d 67 0 (entL 5 [.ref p0]) [] M (none, r) := by
  show EV d 67 0 [some (.ref p0), none, none, none, none] [] M _
  unfold f_op_returnToSaved at h
  refine EV_stq mx_67 (pc' := 1) (L' := [some (.ref p0), none, none, none, none]) (st' := [.ref p0]) bo_67_0_8d5162 rfl ?_
  refine r_gA mx_67 li_67_1 fd_8_20 rfl h (fun a1 h => ?_)
  refine EV_stq mx_67 (pc' := 5) (L' := [some (.ref p0), none, none, none, none]) (st' := [.ref p0, .ref a1]) bo_67_4_e962e2 rfl ?_
  refine r_gA mx_67 li_67_5 fd_8_27 rfl h (fun a2 h => ?_)
  refine h_ck h (fun hc h => ?_)
  refine h_cV h (fun M3 e h => ?_)
  refine EV_call [.ref a1, .ref a2] [] mx_67 li_67_8 rfl rfl si_8_87 rfl (by decide) (by decide) (by omega) ma_65 rfl (Nat.le_of_ble_eq_true rfl) rfl rfl (Nat.le_of_ble_eq_true rfl) (rc_1 mt_at_65 rfl rfl (by decide) hc) (e_ky_copyAll (by omega) a1 a2 M _ e) ?_
  show EV d 67 11 [some (.ref p0), none, none, none, none] [] M3 _
  refine EV_stq mx_67 (pc' := 12) (L' := [some (.ref p0), none, none, none, none]) (st' := [.ref p0]) bo_67_11_081257 rfl ?_
  refine r_gA mx_67 li_67_12 fd_8_11 rfl h (fun a4 h => ?_)
  refine EV_stq mx_67 (pc' := 17) (L' := [some (.ref p0), some (.ref a4), none, none, none]) (st' := [.ref a4]) bo_67_15_d45c32 rfl ?_
  refine r_aN mx_67 li_67_17 h (fun v5 h => ?_)
  refine EV_stq mx_67 (pc' := 21) (L' := [some (.ref p0), some (.ref a4), some (.int v5), some (.int (0 : Int32)), none]) (st' := []) bo_67_18_16f310 rfl ?_
  refine EV_forget (A := [none, some (.ref a4), some (.int v5), some (.int (0 : Int32)), none]) (lsub_of _ _ ⟨Or.inl rfl, ⟨Or.inr rfl, ⟨Or.inr rfl, ⟨Or.inr rfl, ⟨Or.inl rfl, trivial⟩⟩⟩⟩⟩) ?_
  exact e_op_returnToSaved_21 hd FU a4 v5 (0 : Int32) M3 r h
theorem e_sm_returnToSaved_43 {d : Nat} (hd : 3 ≤ d) (k23 : Nat → Nat → Int32 → Int32 → Mem → Option (Mem)) (hk23 : ∀ l0 l1 l2 l3 M r, k23 l0 l1 l2 l3 M = some r → EV d 68 23 [some (.ref l0), some (.ref l1), some (.int l2), some (.int l3), none] [] M (none, r)) (l0 : Nat) (l1 : Nat) (l2 : Int32) (l3 : Int32) (M : Mem) (r : Mem) (h : f_sm_returnToSaved_43 k23 l0 l1 l2 l3 M = some r) : EV d 68 43 [some (.ref l0), some (.ref l1), some (.int l2), some (.int l3), none] [] M (none, r) := by
  unfold f_sm_returnToSaved_43 at h
  refine EV_stq mx_68 (pc' := 23) (L' := [some (.ref l0), some (.ref l1), some (.int l2), some (.int (l3 + (1 : Int32))), none]) (st' := []) bo_68_43_c2b07f rfl ?_
  exact hk23 l0 l1 l2 (l3 + (1 : Int32)) M r h
theorem e_sm_returnToSaved_79 {d : Nat} (hd : 3 ≤ d) (k59 : Nat → Int32 → Int32 → Mem → Option (Mem)) (hk59 : ∀ l1 l2 l3 M r, k59 l1 l2 l3 M = some r → EV d 68 59 [none, some (.ref l1), some (.int l2), some (.int l3), none] [] M (none, r)) (l1 : Nat) (l2 : Int32) (l3 : Int32) (M : Mem) (r : Mem) (h : f_sm_returnToSaved_79 k59 l1 l2 l3 M = some r) : EV d 68 79 [none, some (.ref l1), some (.int l2), some (.int l3), none] [] M (none, r) := by
  unfold f_sm_returnToSaved_79 at h
  refine EV_stq mx_68 (pc' := 59) (L' := [none, some (.ref l1), some (.int l2), some (.int (l3 + (1 : Int32))), none]) (st' := []) bo_68_79_19d3c4 rfl ?_
  exact hk59 l1 l2 (l3 + (1 : Int32)) M r h
theorem e_sm_returnToSaved_59 {d : Nat} (hd : 3 ≤ d) : ∀ (n : Nat) (l1 : Nat) (l2 : Int32) (l3 : Int32) (M : Mem) (r : Mem), f_sm_returnToSaved_59 n l1 l2 l3 M = some r → EV d 68 59 [none, some (.ref l1), some (.int l2), some (.int l3), none] [] M (none, r) := by
  intro n
  induction n with
  | zero => intro l1 l2 l3 M r h; cases h
  | succ n ih =>
    intro l1 l2 l3 M r h
    unfold f_sm_returnToSaved_59 at h
    refine EV_stq mx_68 (pc' := 61) (L' := [none, some (.ref l1), some (.int l2), some (.int l3), none]) (st' := [.int l2, .int l3]) bo_68_59_d0b94e rfl ?_
    refine h_ge h (fun h hc => ?_) (fun h hc => ?_)
    · refine r_icT mx_68 li_68_61 (by decide) rfl hc ?_
      obtain rfl := Option.some.inj h
      exact r_ret mx_68 li_68_85 rfl rfl
    · refine r_icF mx_68 li_68_61 (by decide) hc ?_
      refine EV_stq mx_68 (pc' := 66) (L' := [none, some (.ref l1), some (.int l2), some (.int l3), none]) (st' := [.int l3, .ref l1]) bo_68_64_23d05d rfl ?_
      refine r_aA mx_68 li_68_66 h (fun a1 h => ?_)
      refine EV_stq mx_68 (pc' := 76) (L' := [none, some (.ref l1), some (.int l2), some (.int l3), some (.ref a1)]) (st' := [.ref a1]) bo_68_67_2d0154 rfl ?_
      refine h_ck h (fun hc h => ?_)
      refine h_cV h (fun M2 e h => ?_)
      refine EV_call [.ref a1] [] mx_68 li_68_76 rfl rfl si_10_222 rfl (by decide) (by decide) (by omega) ma_67 rfl (Nat.le_of_ble_eq_true rfl) rfl rfl (Nat.le_of_ble_eq_true rfl) (rc_1 mt_at_67 rfl rfl (by decide) hc) (e_op_returnToSaved (by omega) a1 M _ e) ?_
      show EV d 68 79 [none, some (.ref l1), some (.int l2), some (.int l3), some (.ref a1)] [] M2 _
      refine EV_forget (A := [none, some (.ref l1), some (.int l2), some (.int l3), none]) (lsub_of _ _ ⟨Or.inl rfl, ⟨Or.inr rfl, ⟨Or.inr rfl, ⟨Or.inr rfl, ⟨Or.inl rfl, trivial⟩⟩⟩⟩⟩) ?_
      exact e_sm_returnToSaved_79 hd _ ih l1 l2 l3 M2 r h
theorem e_sm_returnToSaved_23 {d : Nat} (hd : 3 ≤ d) : ∀ (n : Nat) (l0 : Nat) (l1 : Nat) (l2 : Int32) (l3 : Int32) (M : Mem) (r : Mem), f_sm_returnToSaved_23 n l0 l1 l2 l3 M = some r → EV d 68 23 [some (.ref l0), some (.ref l1), some (.int l2), some (.int l3), none] [] M (none, r) := by
  intro n
  induction n with
  | zero => intro l0 l1 l2 l3 M r h; cases h
  | succ n ih =>
    intro l0 l1 l2 l3 M r h
    unfold f_sm_returnToSaved_23 at h
    refine EV_stq mx_68 (pc' := 25) (L' := [some (.ref l0), some (.ref l1), some (.int l2), some (.int l3), none]) (st' := [.int l2, .int l3]) bo_68_23_31ad6f rfl ?_
    refine h_ge h (fun h hc => ?_) (fun h hc => ?_)
    · refine r_icT mx_68 li_68_25 (by decide) rfl hc ?_
      refine EV_stq mx_68 (pc' := 50) (L' := [some (.ref l0), some (.ref l1), some (.int l2), some (.int l3), none]) (st' := [.ref l0]) bo_68_49_e052b7 rfl ?_
      refine r_gA mx_68 li_68_50 fd_10_29 rfl h (fun a1 h => ?_)
      refine EV_stq mx_68 (pc' := 55) (L' := [some (.ref l0), some (.ref a1), some (.int l2), some (.int l3), none]) (st' := [.ref a1]) bo_68_53_2770e1 rfl ?_
      refine r_aN mx_68 li_68_55 h (fun v2 h => ?_)
      refine EV_stq mx_68 (pc' := 59) (L' := [some (.ref l0), some (.ref a1), some (.int v2), some (.int (0 : Int32)), none]) (st' := []) bo_68_56_308b3f rfl ?_
      refine EV_forget (A := [none, some (.ref a1), some (.int v2), some (.int (0 : Int32)), none]) (lsub_of _ _ ⟨Or.inl rfl, ⟨Or.inr rfl, ⟨Or.inr rfl, ⟨Or.inr rfl, ⟨Or.inl rfl, trivial⟩⟩⟩⟩⟩) ?_
      exact e_sm_returnToSaved_59 hd FU a1 v2 (0 : Int32) M r h
    · refine r_icF mx_68 li_68_25 (by decide) hc ?_
      refine EV_stq mx_68 (pc' := 30) (L' := [some (.ref l0), some (.ref l1), some (.int l2), some (.int l3), none]) (st' := [.int l3, .ref l1]) bo_68_28_533662 rfl ?_
      refine r_aA mx_68 li_68_30 h (fun a3 h => ?_)
      refine EV_stq mx_68 (pc' := 40) (L' := [some (.ref l0), some (.ref l1), some (.int l2), some (.int l3), some (.ref a3)]) (st' := [.ref a3]) bo_68_31_3468ce rfl ?_
      refine h_ck h (fun hc h => ?_)
      refine h_cV h (fun M4 e h => ?_)
      refine EV_call [.ref a3] [] mx_68 li_68_40 rfl rfl si_10_221 rfl (by decide) (by decide) (by omega) ma_64 rfl (Nat.le_of_ble_eq_true rfl) rfl rfl (Nat.le_of_ble_eq_true rfl) (rc_1 mt_at_64 rfl rfl (by decide) hc) (e_ch_wipe (by omega) a3 M _ e) ?_
      show EV d 68 43 [some (.ref l0), some (.ref l1), some (.int l2), some (.int l3), some (.ref a3)] [] M4 _
      refine EV_forget (A := [some (.ref l0), some (.ref l1), some (.int l2), some (.int l3), none]) (lsub_of _ _ ⟨Or.inr rfl, ⟨Or.inr rfl, ⟨Or.inr rfl, ⟨Or.inr rfl, ⟨Or.inl rfl, trivial⟩⟩⟩⟩⟩) ?_
      exact e_sm_returnToSaved_43 hd _ ih l0 l1 l2 l3 M4 r h
theorem e_sm_returnToSaved {d : Nat} (hd : 3 ≤ d) (p0 : Nat) (M : Mem) (r : Mem) (h : f_sm_returnToSaved p0 M = some r) : EV d 68 0 (entL 5 [.ref p0]) [] M (none, r) := by
  show EV d 68 0 [some (.ref p0), none, none, none, none] [] M _
  unfold f_sm_returnToSaved at h
  refine EV_stq mx_68 (pc' := 2) (L' := [some (.ref p0), none, none, none, none]) (st' := [.int (0 : Int32), .ref p0]) bo_68_0_264884 rfl ?_
  refine r_pI mx_68 li_68_2 fd_10_126 (Or.inl rfl) rfl h (fun M1 h => ?_)
  refine EV_stq mx_68 (pc' := 7) (L' := [some (.ref p0), none, none, none, none]) (st' := [.ref p0, .ref p0]) bo_68_5_ca77c4 rfl ?_
  refine r_gI mx_68 li_68_7 fd_10_97 ⟨by decide, by decide⟩ h (fun v2 h => ?_)
  refine r_pI mx_68 li_68_10 fd_10_135 (Or.inl rfl) rfl h (fun M3 h => ?_)
  refine EV_stq mx_68 (pc' := 14) (L' := [some (.ref p0), none, none, none, none]) (st' := [.ref p0]) bo_68_13_15f019 rfl ?_
  refine r_gA mx_68 li_68_14 fd_10_35 rfl h (fun a4 h => ?_)
  refine EV_stq mx_68 (pc' := 19) (L' := [some (.ref p0), some (.ref a4), none, none, none]) (st' := [.ref a4]) bo_68_17_03196b rfl ?_
  refine r_aN mx_68 li_68_19 h (fun v5 h => ?_)
  refine EV_stq mx_68 (pc' := 23) (L' := [some (.ref p0), some (.ref a4), some (.int v5), some (.int (0 : Int32)), none]) (st' := []) bo_68_20_638673 rfl ?_
  exact e_sm_returnToSaved_23 hd FU p0 a4 v5 (0 : Int32) M3 r h
theorem e_sm_beginAnew_30 {d : Nat} (hd : 4 ≤ d) (k10 : Nat → Nat → Int32 → Int32 → Mem → Option (Mem)) (hk10 : ∀ l0 l1 l2 l3 M r, k10 l0 l1 l2 l3 M = some r → EV d 69 10 [some (.ref l0), some (.ref l1), some (.int l2), some (.int l3), none] [] M (none, r)) (l0 : Nat) (l1 : Nat) (l2 : Int32) (l3 : Int32) (M : Mem) (r : Mem) (h : f_sm_beginAnew_30 k10 l0 l1 l2 l3 M = some r) : EV d 69 30 [some (.ref l0), some (.ref l1), some (.int l2), some (.int l3), none] [] M (none, r) := by
  unfold f_sm_beginAnew_30 at h
  refine EV_stq mx_69 (pc' := 10) (L' := [some (.ref l0), some (.ref l1), some (.int l2), some (.int (l3 + (1 : Int32))), none]) (st' := []) bo_69_30_c7d85e rfl ?_
  exact hk10 l0 l1 l2 (l3 + (1 : Int32)) M r h
theorem e_sm_beginAnew_10 {d : Nat} (hd : 4 ≤ d) : ∀ (n : Nat) (l0 : Nat) (l1 : Nat) (l2 : Int32) (l3 : Int32) (M : Mem) (r : Mem), f_sm_beginAnew_10 n l0 l1 l2 l3 M = some r → EV d 69 10 [some (.ref l0), some (.ref l1), some (.int l2), some (.int l3), none] [] M (none, r) := by
  intro n
  induction n with
  | zero => intro l0 l1 l2 l3 M r h; cases h
  | succ n ih =>
    intro l0 l1 l2 l3 M r h
    unfold f_sm_beginAnew_10 at h
    refine EV_stq mx_69 (pc' := 12) (L' := [some (.ref l0), some (.ref l1), some (.int l2), some (.int l3), none]) (st' := [.int l2, .int l3]) bo_69_10_42a704 rfl ?_
    refine h_ge h (fun h hc => ?_) (fun h hc => ?_)
    · refine r_icT mx_69 li_69_12 (by decide) rfl hc ?_
      refine EV_stq mx_69 (pc' := 37) (L' := [some (.ref l0), some (.ref l1), some (.int l2), some (.int l3), none]) (st' := [.ref l0]) bo_69_36_befed3 rfl ?_
      refine r_gA mx_69 li_69_37 fd_10_42 rfl h (fun a1 h => ?_)
      refine h_ck h (fun hc h => ?_)
      refine h_cV h (fun M2 e h => ?_)
      refine EV_call [.ref a1] [] mx_69 li_69_40 rfl rfl si_10_94 rfl (by decide) (by decide) (by omega) ma_62 rfl (Nat.le_of_ble_eq_true rfl) rfl rfl (Nat.le_of_ble_eq_true rfl) (rc_1 mt_at_62 rfl rfl (by decide) hc) (e_la_wipe (by omega) a1 M _ e) ?_
      show EV d 69 43 [some (.ref l0), some (.ref l1), some (.int l2), some (.int l3), none] [] M2 _
      refine EV_stq mx_69 (pc' := 45) (L' := [some (.ref l0), some (.ref l1), some (.int l2), some (.int l3), none]) (st' := [.int (0 : Int32), .ref l0]) bo_69_43_98bd08 rfl ?_
      refine r_pI mx_69 li_69_45 fd_10_97 (Or.inl rfl) rfl h (fun M3 h => ?_)
      refine EV_stq mx_69 (pc' := 50) (L' := [some (.ref l0), some (.ref l1), some (.int l2), some (.int l3), none]) (st' := [.int (0 : Int32), .ref l0]) bo_69_48_3a676f rfl ?_
      refine r_pI mx_69 li_69_50 fd_10_100 (Or.inl rfl) rfl h (fun M4 h => ?_)
      refine EV_stq mx_69 (pc' := 55) (L' := [some (.ref l0), some (.ref l1), some (.int l2), some (.int l3), none]) (st' := [.int (0 : Int32), .ref l0]) bo_69_53_2770e1 rfl ?_
      refine r_pI mx_69 li_69_55 fd_10_103 (Or.inl rfl) rfl h (fun M5 h => ?_)
      refine EV_stq mx_69 (pc' := 60) (L' := [some (.ref l0), some (.ref l1), some (.int l2), some (.int l3), none]) (st' := [.int (0 : Int32), .ref l0]) bo_69_58_6e952f rfl ?_
      refine r_pZ mx_69 li_69_60 fd_10_106 (Or.inl rfl) rfl h (fun M6 h => ?_)
      refine EV_stq mx_69 (pc' := 64) (L' := [some (.ref l0), some (.ref l1), some (.int l2), some (.int l3), none]) (st' := [.ref l0]) bo_69_63_e22c52 rfl ?_
      refine h_ck h (fun hc h => ?_)
      refine h_cV h (fun M7 e h => ?_)
      refine EV_call [.ref l0] [] mx_69 li_69_64 rfl rfl si_10_110 rfl (by decide) (by decide) (by omega) ma_68 rfl (Nat.le_of_ble_eq_true rfl) rfl rfl (Nat.le_of_ble_eq_true rfl) (rc_1 mt_at_68 rfl rfl (by decide) hc) (e_sm_returnToSaved (by omega) l0 M6 _ e) ?_
      show EV d 69 67 [some (.ref l0), some (.ref l1), some (.int l2), some (.int l3), none] [] M7 _
      refine EV_stq mx_69 (pc' := 69) (L' := [some (.ref l0), some (.ref l1), some (.int l2), some (.int l3), none]) (st' := [.int (0 : Int32), .ref l0]) bo_69_67_d1bdfd rfl ?_
      refine r_pI mx_69 li_69_69 fd_10_113 (Or.inl rfl) rfl h (fun M8 h => ?_)
      obtain rfl := Option.some.inj h
      exact r_ret mx_69 li_69_72 rfl rfl
    · refine r_icF mx_69 li_69_12 (by decide) hc ?_
      refine EV_stq mx_69 (pc' := 17) (L' := [some (.ref l0), some (.ref l1), some (.int l2), some (.int l3), none]) (st' := [.int l3, .ref l1]) bo_69_15_d45c32 rfl ?_
      refine r_aA mx_69 li_69_17 h (fun a9 h => ?_)
      refine EV_stq mx_69 (pc' := 27) (L' := [some (.ref l0), some (.ref l1), some (.int l2), some (.int l3), some (.ref a9)]) (st' := [.ref a9]) bo_69_18_09e76f rfl ?_
      refine h_ck h (fun hc h => ?_)
      refine h_cV h (fun M10 e h => ?_)
      refine EV_call [.ref a9] [] mx_69 li_69_27 rfl rfl si_10_91 rfl (by decide) (by decide) (by omega) ma_61 rfl (Nat.le_of_ble_eq_true rfl) rfl rfl (Nat.le_of_ble_eq_true rfl) (rc_1 mt_at_61 rfl rfl (by decide) hc) (e_op_forgetAll (by omega) a9 M _ e) ?_
      show EV d 69 30 [some (.ref l0), some (.ref l1), some (.int l2), some (.int l3), some (.ref a9)] [] M10 _
      refine EV_forget (A := [some (.ref l0), some (.ref l1), some (.int l2), some (.int l3), none]) (lsub_of _ _ ⟨Or.inr rfl, ⟨Or.inr rfl, ⟨Or.inr rfl, ⟨Or.inr rfl, ⟨Or.inl rfl, trivial⟩⟩⟩⟩⟩) ?_
      exact e_sm_beginAnew_30 hd _ ih l0 l1 l2 l3 M10 r h
theorem e_sm_beginAnew {d : Nat} (hd : 4 ≤ d) (p0 : Nat) (M : Mem) (r : Mem) (h : f_sm_beginAnew p0 M = some r) : EV d 69 0 (entL 5 [.ref p0]) [] M (none, r) := by
  show EV d 69 0 [some (.ref p0), none, none, none, none] [] M _
  unfold f_sm_beginAnew at h
  refine EV_stq mx_69 (pc' := 1) (L' := [some (.ref p0), none, none, none, none]) (st' := [.ref p0]) bo_69_0_8d5162 rfl ?_
  refine r_gA mx_69 li_69_1 fd_10_29 rfl h (fun a1 h => ?_)
  refine EV_stq mx_69 (pc' := 6) (L' := [some (.ref p0), some (.ref a1), none, none, none]) (st' := [.ref a1]) bo_69_4_40e659 rfl ?_
  refine r_aN mx_69 li_69_6 h (fun v2 h => ?_)
  refine EV_stq mx_69 (pc' := 10) (L' := [some (.ref p0), some (.ref a1), some (.int v2), some (.int (0 : Int32)), none]) (st' := []) bo_69_7_6bece7 rfl ?_
  exact e_sm_beginAnew_10 hd FU p0 a1 v2 (0 : Int32) M r h
theorem e_sm_replacePipeline_63 {d : Nat} (hd : 5 ≤ d) (k10 : Nat → Nat → Int32 → Mem → Option (Mem)) (hk10 : ∀ l0 l1 l2 M r, k10 l0 l1 l2 M = some r → EV d 70 10 [some (.ref l0), some (.ref l1), some (.int l2), none] [] M (none, r)) (l0 : Nat) (l1 : Nat) (l2 : Int32) (M : Mem) (r : Mem) (h : f_sm_replacePipeline_63 k10 l0 l1 l2 M = some r) : EV d 70 63 [some (.ref l0), some (.ref l1), some (.int l2), none] [] M (none, r) := by
  unfold f_sm_replacePipeline_63 at h
  refine EV_stq mx_70 (pc' := 10) (L' := [some (.ref l0), some (.ref l1), some (.int (l2 + (1 : Int32))), none]) (st' := []) bo_70_63_db582c rfl ?_
  exact hk10 l0 l1 (l2 + (1 : Int32)) M r h
theorem e_sm_replacePipeline_96 {d : Nat} (hd : 5 ≤ d) (l0 : Nat) (M : Mem) (r : Mem) (h : f_sm_replacePipeline_96 l0 M = some r) : EV d 70 96 [some (.ref l0), none, none, none] [] M (none, r) := by
  unfold f_sm_replacePipeline_96 at h
  refine EV_stq mx_70 (pc' := 97) (L' := [some (.ref l0), none, none, none]) (st' := [.ref l0]) bo_70_96_2375ef rfl ?_
  refine h_ck h (fun hc h => ?_)
  refine h_cV h (fun M1 e h => ?_)
  refine EV_call [.ref l0] [] mx_70 li_70_97 rfl rfl si_10_88 rfl (by decide) (by decide) (by omega) ma_69 rfl (Nat.le_of_ble_eq_true rfl) rfl rfl (Nat.le_of_ble_eq_true rfl) (rc_1 mt_at_69 rfl rfl (by decide) hc) (e_sm_beginAnew (by omega) l0 M _ e) ?_
  show EV d 70 100 [some (.ref l0), none, none, none] [] M1 _
  obtain rfl := Option.some.inj h
  exact r_ret mx_70 li_70_100 rfl rfl
theorem e_sm_replacePipeline_69 {d : Nat} (hd : 5 ≤ d) (l0 : Nat) (l1 : Nat) (M : Mem) (r : Mem) (h : f_sm_replacePipeline_69 l0 l1 M = some r) : EV d 70 69 [some (.ref l0), some (.ref l1), none, none] [] M (none, r) := by
  unfold f_sm_replacePipeline_69 at h
  refine EV_stq mx_70 (pc' := 71) (L' := [some (.ref l0), some (.ref l1), none, none]) (st' := [.ref l0, .ref l0]) bo_70_69_1aaecf rfl ?_
  refine r_gI mx_70 li_70_71 fd_10_50 ⟨by decide, by decide⟩ h (fun v1 h => ?_)
  refine EV_stq mx_70 (pc' := 76) (L' := [some (.ref l0), some (.ref l1), none, none]) (st' := [.int (v1 + (1 : Int32)), .ref l0]) bo_70_74_f61e5a rfl ?_
  refine h_ck h (fun hc h => ?_)
  refine h_cR h (fun o3 M2 e h => ?_)
  refine EV_call [.ref l0, .int (v1 + (1 : Int32))] [] mx_70 li_70_76 rfl rfl si_10_54 rfl (by decide) (by decide) (by omega) ma_56 rfl (Nat.le_of_ble_eq_true rfl) rfl rfl (Nat.le_of_ble_eq_true rfl) (rc_1 mt_at_56 rfl rfl (by decide) hc) (e_sm_operatorAt (by omega) l0 (v1 + (1 : Int32)) M _ e) ?_
  refine h_onR (G := fun o => EV d 70 79 [some (.ref l0), some (.ref l1), none, none] [rfv o] M2 _) h (fun h => ?_) (fun a4 h => ?_)
  · refine EV_stq mx_70 (pc' := 96) (L' := [some (.ref l0), some (.ref l1), some (.null), none]) (st' := []) bo_70_79_3f6050 rfl ?_
    refine EV_forget (A := [some (.ref l0), none, none, none]) (lsub_of _ _ ⟨Or.inr rfl, ⟨Or.inl rfl, ⟨Or.inl rfl, ⟨Or.inl rfl, trivial⟩⟩⟩⟩) ?_
    exact e_sm_replacePipeline_96 hd l0 M2 r h
  · refine EV_stq mx_70 (pc' := 90) (L' := [some (.ref l0), some (.ref l1), some (.ref a4), none]) (st' := [.ref l1, .int (0 : Int32), .int (0 : Int32), .int (8 : Int32), .ref a4]) bo_70_79_46d332 rfl ?_
    refine r_gI mx_70 li_70_90 fd_10_85 ⟨by decide, by decide⟩ h (fun v5 h => ?_)
    refine h_ck h (fun hc h => ?_)
    refine h_cV h (fun M6 e h => ?_)
    refine EV_call [.ref a4, .int (8 : Int32), .int (0 : Int32), .int (0 : Int32), .int v5] [] mx_70 li_70_93 rfl rfl si_10_81 rfl (by decide) (by decide) (by omega) ma_8 rfl (Nat.le_of_ble_eq_true rfl) rfl rfl (Nat.le_of_ble_eq_true rfl) (rc_1 mt_at_8 rfl rfl (by decide) hc) (e_op_become (by omega) a4 (8 : Int32) (0 : Int32) (0 : Int32) v5 M2 _ e) ?_
    show EV d 70 96 [some (.ref l0), some (.ref l1), some (.ref a4), none] [] M6 _
    refine EV_forget (A := [some (.ref l0), none, none, none]) (lsub_of _ _ ⟨Or.inr rfl, ⟨Or.inl rfl, ⟨Or.inl rfl, ⟨Or.inl rfl, trivial⟩⟩⟩⟩) ?_
    exact e_sm_replacePipeline_96 hd l0 M6 r h
theorem e_sm_replacePipeline_10 {d : Nat} (hd : 5 ≤ d) : ∀ (n : Nat) (l0 : Nat) (l1 : Nat) (l2 : Int32) (M : Mem) (r : Mem), f_sm_replacePipeline_10 n l0 l1 l2 M = some r → EV d 70 10 [some (.ref l0), some (.ref l1), some (.int l2), none] [] M (none, r) := by
  intro n
  induction n with
  | zero => intro l0 l1 l2 M r h; cases h
  | succ n ih =>
    intro l0 l1 l2 M r h
    unfold f_sm_replacePipeline_10 at h
    refine EV_stq mx_70 (pc' := 12) (L' := [some (.ref l0), some (.ref l1), some (.int l2), none]) (st' := [.ref l0, .int l2]) bo_70_10_42a704 rfl ?_
    refine r_gI mx_70 li_70_12 fd_10_50 ⟨by decide, by decide⟩ h (fun v1 h => ?_)
    refine h_ge h (fun h hc => ?_) (fun h hc => ?_)
    · refine r_icT mx_70 li_70_15 (by decide) rfl hc ?_
      refine EV_forget (A := [some (.ref l0), some (.ref l1), none, none]) (lsub_of _ _ ⟨Or.inr rfl, ⟨Or.inr rfl, ⟨Or.inl rfl, ⟨Or.inl rfl, trivial⟩⟩⟩⟩) ?_
      exact e_sm_replacePipeline_69 hd l0 l1 M r h
    · refine r_icF mx_70 li_70_15 (by decide) hc ?_
      refine EV_stq mx_70 (pc' := 20) (L' := [some (.ref l0), some (.ref l1), some (.int l2), none]) (st' := [.int (4 : Int32), .int l2]) bo_70_18_d268ac rfl ?_
      refine h_ge h (fun h hc => ?_) (fun h hc => ?_)
      · refine r_icT mx_70 li_70_20 (by decide) rfl hc ?_
        refine EV_forget (A := [some (.ref l0), some (.ref l1), none, none]) (lsub_of _ _ ⟨Or.inr rfl, ⟨Or.inr rfl, ⟨Or.inl rfl, ⟨Or.inl rfl, trivial⟩⟩⟩⟩) ?_
        exact e_sm_replacePipeline_69 hd l0 l1 M r h
      · refine r_icF mx_70 li_70_20 (by decide) hc ?_
        refine EV_stq mx_70 (pc' := 27) (L' := [some (.ref l0), some (.ref l1), some (.int l2), none]) (st' := [.int (l2 + (1 : Int32)), .ref l0]) bo_70_23_2d99ef rfl ?_
        refine h_ck h (fun hc h => ?_)
        refine h_cR h (fun o3 M2 e h => ?_)
        refine EV_call [.ref l0, .int (l2 + (1 : Int32))] [] mx_70 li_70_27 rfl rfl si_10_54 rfl (by decide) (by decide) (by omega) ma_56 rfl (Nat.le_of_ble_eq_true rfl) rfl rfl (Nat.le_of_ble_eq_true rfl) (rc_1 mt_at_56 rfl rfl (by decide) hc) (e_sm_operatorAt (by omega) l0 (l2 + (1 : Int32)) M _ e) ?_
        refine h_onR (G := fun o => EV d 70 30 [some (.ref l0), some (.ref l1), some (.int l2), none] [rfv o] M2 _) h (fun h => ?_) (fun a4 h => ?_)
        · refine EV_stq mx_70 (pc' := 63) (L' := [some (.ref l0), some (.ref l1), some (.int l2), some (.null)]) (st' := []) bo_70_30_8434fa rfl ?_
          refine EV_forget (A := [some (.ref l0), some (.ref l1), some (.int l2), none]) (lsub_of _ _ ⟨Or.inr rfl, ⟨Or.inr rfl, ⟨Or.inr rfl, ⟨Or.inl rfl, trivial⟩⟩⟩⟩) ?_
          exact e_sm_replacePipeline_63 hd _ ih l0 l1 l2 M2 r h
        · refine EV_stq mx_70 (pc' := 37) (L' := [some (.ref l0), some (.ref l1), some (.int l2), some (.ref a4)]) (st' := [.ref l1, .ref a4]) bo_70_30_d32a15 rfl ?_
          refine r_gA mx_70 li_70_37 fd_10_68 rfl h (fun a5 h => ?_)
          refine EV_stq mx_70 (pc' := 41) (L' := [some (.ref l0), some (.ref l1), some (.int l2), some (.ref a4)]) (st' := [.int l2, .ref a5, .ref a4]) bo_70_40_d0cc5b rfl ?_
          refine r_aI mx_70 li_70_41 h (fun v6 h => ?_)
          refine EV_stq mx_70 (pc' := 43) (L' := [some (.ref l0), some (.ref l1), some (.int l2), some (.ref a4)]) (st' := [.ref l1, .int v6, .ref a4]) bo_70_42_b358e7 rfl ?_
          refine r_gA mx_70 li_70_43 fd_10_72 rfl h (fun a7 h => ?_)
          refine EV_stq mx_70 (pc' := 47) (L' := [some (.ref l0), some (.ref l1), some (.int l2), some (.ref a4)]) (st' := [.int l2, .ref a7, .int v6, .ref a4]) bo_70_46_4b02d4 rfl ?_
          refine r_aI mx_70 li_70_47 h (fun v8 h => ?_)
          refine EV_stq mx_70 (pc' := 49) (L' := [some (.ref l0), some (.ref l1), some (.int l2), some (.ref a4)]) (st' := [.ref l1, .int v8, .int v6, .ref a4]) bo_70_48_04c55a rfl ?_
          refine r_gA mx_70 li_70_49 fd_10_75 rfl h (fun a9 h => ?_)
          refine EV_stq mx_70 (pc' := 53) (L' := [some (.ref l0), some (.ref l1), some (.int l2), some (.ref a4)]) (st' := [.int l2, .ref a9, .int v8, .int v6, .ref a4]) bo_70_52_118d3f rfl ?_
          refine r_aI mx_70 li_70_53 h (fun v10 h => ?_)
          refine EV_stq mx_70 (pc' := 55) (L' := [some (.ref l0), some (.ref l1), some (.int l2), some (.ref a4)]) (st' := [.ref l1, .int v10, .int v8, .int v6, .ref a4]) bo_70_54_02ca38 rfl ?_
          refine r_gA mx_70 li_70_55 fd_10_78 rfl h (fun a11 h => ?_)
          refine EV_stq mx_70 (pc' := 59) (L' := [some (.ref l0), some (.ref l1), some (.int l2), some (.ref a4)]) (st' := [.int l2, .ref a11, .int v10, .int v8, .int v6, .ref a4]) bo_70_58_df393a rfl ?_
          refine r_aI mx_70 li_70_59 h (fun v12 h => ?_)
          refine h_ck h (fun hc h => ?_)
          refine h_cV h (fun M13 e h => ?_)
          refine EV_call [.ref a4, .int v6, .int v8, .int v10, .int v12] [] mx_70 li_70_60 rfl rfl si_10_81 rfl (by decide) (by decide) (by omega) ma_8 rfl (Nat.le_of_ble_eq_true rfl) rfl rfl (Nat.le_of_ble_eq_true rfl) (rc_1 mt_at_8 rfl rfl (by decide) hc) (e_op_become (by omega) a4 v6 v8 v10 v12 M2 _ e) ?_
          show EV d 70 63 [some (.ref l0), some (.ref l1), some (.int l2), some (.ref a4)] [] M13 _
          refine EV_forget (A := [some (.ref l0), some (.ref l1), some (.int l2), none]) (lsub_of _ _ ⟨Or.inr rfl, ⟨Or.inr rfl, ⟨Or.inr rfl, ⟨Or.inl rfl, trivial⟩⟩⟩⟩) ?_
          exact e_sm_replacePipeline_63 hd _ ih l0 l1 l2 M13 r h
theorem e_sm_replacePipeline {d : Nat} (hd : 5 ≤ d) (p0 : Nat) (p1 : Nat) (M : Mem) (r : Mem) (h : f_sm_replacePipeline p0 p1 M = some r) : EV d 70 0 (entL 4 [.ref p0, .ref p1]) [] M (none, r) := by
  show EV d 70 0 [some (.ref p0), some (.ref p1), none, none] [] M _
  unfold f_sm_replacePipeline at h
  refine EV_stq mx_70 (pc' := 2) (L' := [some (.ref p0), some (.ref p1), none, none]) (st' := [.ref p1, .ref p0]) bo_70_0_264884 rfl ?_
  refine r_gI mx_70 li_70_2 fd_10_65 ⟨by decide, by decide⟩ h (fun v1 h => ?_)
  refine r_pI mx_70 li_70_5 fd_10_50 (Or.inl rfl) rfl h (fun M2 h => ?_)
  refine EV_stq mx_70 (pc' := 10) (L' := [some (.ref p0), some (.ref p1), some (.int (0 : Int32)), none]) (st' := []) bo_70_8_0adad6 rfl ?_
  exact e_sm_replacePipeline_10 hd FU p0 p1 (0 : Int32) M2 r h
theorem e_pl_forget_40 {d : Nat} (hd : 2 ≤ d) (k7 : Nat → Int32 → Mem → Option (Mem)) (hk7 : ∀ l0 l1 M r, k7 l0 l1 M = some r → EV d 71 7 [some (.ref l0), some (.int l1), none] [] M (none, r)) (l0 : Nat) (l1 : Int32) (M : Mem) (r : Mem) (h : f_pl_forget_40 k7 l0 l1 M = some r) : EV d 71 40 [some (.ref l0), some (.int l1), none] [] M (none, r) := by
  unfold f_pl_forget_40 at h
  refine EV_stq mx_71 (pc' := 7) (L' := [some (.ref l0), some (.int (l1 + (1 : Int32))), none]) (st' := []) bo_71_40_9363ee rfl ?_
  exact hk7 l0 (l1 + (1 : Int32)) M r h
theorem e_pl_forget_7 {d : Nat} (hd : 2 ≤ d) : ∀ (n : Nat) (l0 : Nat) (l1 : Int32) (M : Mem) (r : Mem), f_pl_forget_7 n l0 l1 M = some r → EV d 71 7 [some (.ref l0), some (.int l1), none] [] M (none, r) := by
  intro n
  induction n with
  | zero => intro l0 l1 M r h; cases h
  | succ n ih =>
    intro l0 l1 M r h
    unfold f_pl_forget_7 at h
    refine EV_stq mx_71 (pc' := 9) (L' := [some (.ref l0), some (.int l1), none]) (st' := [.ref l0, .int l1]) bo_71_7_7eef78 rfl ?_
    refine r_gA mx_71 li_71_9 fd_11_9 rfl h (fun a1 h => ?_)
    refine r_gI mx_71 li_71_12 fd_11_19 ⟨by decide, by decide⟩ h (fun v2 h => ?_)
    refine EV_stq mx_71 (pc' := 17) (L' := [some (.ref l0), some (.int l1), none]) (st' := [.int (v2 + (1 : Int32)), .int l1]) bo_71_15_d45c32 rfl ?_
    refine h_gt h (fun h hc => ?_) (fun h hc => ?_)
    · refine r_icT mx_71 li_71_17 (by decide) rfl hc ?_
      obtain rfl := Option.some.inj h
      exact r_ret mx_71 li_71_46 rfl rfl
    · refine r_icF mx_71 li_71_17 (by decide) hc ?_
      refine EV_stq mx_71 (pc' := 21) (L' := [some (.ref l0), some (.int l1), none]) (st' := [.ref l0]) bo_71_20_baa9a0 rfl ?_
      refine r_gA mx_71 li_71_21 fd_11_9 rfl h (fun a3 h => ?_)
      refine EV_stq mx_71 (pc' := 25) (L' := [some (.ref l0), some (.int l1), none]) (st' := [.int l1, .ref a3]) bo_71_24_99aa1d rfl ?_
      refine h_ck h (fun hc h => ?_)
      refine h_cR h (fun o5 M4 e h => ?_)
      refine EV_call [.ref a3, .int l1] [] mx_71 li_71_25 rfl rfl si_11_24 rfl (by decide) (by decide) (by omega) ma_56 rfl (Nat.le_of_ble_eq_true rfl) rfl rfl (Nat.le_of_ble_eq_true rfl) (rc_1 mt_at_56 rfl rfl (by decide) hc) (e_sm_operatorAt (by omega) a3 l1 M _ e) ?_
      refine h_onR (G := fun o => EV d 71 28 [some (.ref l0), some (.int l1), none] [rfv o] M4 _) h (fun h => ?_) (fun a6 h => ?_)
      · refine EV_stq mx_71 (pc' := 40) (L' := [some (.ref l0), some (.int l1), some (.null)]) (st' := []) bo_71_28_6102be rfl ?_
        refine EV_forget (A := [some (.ref l0), some (.int l1), none]) (lsub_of _ _ ⟨Or.inr rfl, ⟨Or.inr rfl, ⟨Or.inl rfl, trivial⟩⟩⟩) ?_
        exact e_pl_forget_40 hd _ ih l0 l1 M4 r h
      · refine EV_stq mx_71 (pc' := 34) (L' := [some (.ref l0), some (.int l1), some (.ref a6)]) (st' := [.ref a6]) bo_71_28_95d3ba rfl ?_
        refine r_gA mx_71 li_71_34 fd_11_28 rfl h (fun a7 h => ?_)
        refine h_ck h (fun hc h => ?_)
        refine h_cV h (fun M8 e h => ?_)
        refine EV_call [.ref a7] [] mx_71 li_71_37 rfl rfl si_11_34 rfl (by decide) (by decide) (by omega) ma_58 rfl (Nat.le_of_ble_eq_true rfl) rfl rfl (Nat.le_of_ble_eq_true rfl) (rc_1 mt_at_58 rfl rfl (by decide) hc) (e_ky_wipe (by omega) a7 M4 _ e) ?_
        show EV d 71 40 [some (.ref l0), some (.int l1), some (.ref a6)] [] M8 _
        refine EV_forget (A := [some (.ref l0), some (.int l1), none]) (lsub_of _ _ ⟨Or.inr rfl, ⟨Or.inr rfl, ⟨Or.inl rfl, trivial⟩⟩⟩) ?_
        exact e_pl_forget_40 hd _ ih l0 l1 M8 r h
theorem e_pl_forget {d : Nat} (hd : 2 ≤ d) (p0 : Nat) (M : Mem) (r : Mem) (h : f_pl_forget p0 M = some r) : EV d 71 0 (entL 3 [.ref p0]) [] M (none, r) := by
  show EV d 71 0 [some (.ref p0), none, none] [] M _
  unfold f_pl_forget at h
  refine EV_stq mx_71 (pc' := 2) (L' := [some (.ref p0), none, none]) (st' := [.int (0 : Int32), .ref p0]) bo_71_0_264884 rfl ?_
  refine r_pI mx_71 li_71_2 fd_11_15 (Or.inl rfl) rfl h (fun M1 h => ?_)
  refine EV_stq mx_71 (pc' := 7) (L' := [some (.ref p0), some (.int (0 : Int32)), none]) (st' := []) bo_71_5_ca77c4 rfl ?_
  exact e_pl_forget_7 hd FU p0 (0 : Int32) M1 r h
theorem e_x_readPipeline {d : Nat} (hd : 10 ≤ d) (p0 : Nat) (M : Mem) (r : Int32 × Mem) (h : f_x_readPipeline p0 M = some r) : EV d 72 0 (entL 2 [.ref p0]) [] M (some (.int r.1), r.2) := by
  show EV d 72 0 [some (.ref p0), none] [] M _
  unfold f_x_readPipeline at h
  refine EV_stq mx_72 (pc' := 1) (L' := [some (.ref p0), none]) (st' := [.ref p0]) bo_72_0_8d5162 rfl ?_
  refine r_gA mx_72 li_72_1 fd_13_24 rfl h (fun a1 h => ?_)
  refine h_ck h (fun hc h => ?_)
  refine h_cI h (fun v3 M2 e h => ?_)
  refine EV_call [.ref a1] [] mx_72 li_72_4 rfl rfl si_13_61 rfl (by decide) (by decide) (by omega) ma_53 rfl (Nat.le_of_ble_eq_true rfl) rfl rfl (Nat.le_of_ble_eq_true rfl) (rc_1 mt_at_53 rfl rfl (by decide) hc) (e_rd_readAll (by omega) a1 M _ e) ?_
  show EV d 72 7 [some (.ref p0), none] [.int v3] M2 _
  refine EV_stq mx_72 (pc' := 9) (L' := [some (.ref p0), some (.int v3)]) (st' := [.ref p0]) bo_72_7_7eef78 rfl ?_
  refine r_gA mx_72 li_72_9 fd_13_10 rfl h (fun a4 h => ?_)
  refine EV_stq mx_72 (pc' := 13) (L' := [some (.ref p0), some (.int v3)]) (st' := [.int (0 : Int32), .ref a4]) bo_72_12_d0d0c9 rfl ?_
  refine h_ck h (fun hc h => ?_)
  refine h_cV h (fun M5 e h => ?_)
  refine EV_call [.ref a4, .int (0 : Int32)] [] mx_72 li_72_13 rfl rfl si_13_65 rfl (by decide) (by decide) (by omega) ma_55 rfl (Nat.le_of_ble_eq_true rfl) rfl rfl (Nat.le_of_ble_eq_true rfl) (rc_1 mt_at_55 rfl rfl (by decide) hc) (e_sb_setLength (by omega) a4 (0 : Int32) M2 _ e) ?_
  show EV d 72 16 [some (.ref p0), some (.int v3)] [] M5 _
  refine EV_stq mx_72 (pc' := 17) (L' := [some (.ref p0), some (.int v3)]) (st' := [.int v3]) bo_72_16_862b1a rfl ?_
  refine h_ne h (fun h hc => ?_) (fun h hc => ?_)
  · refine r_ifF mx_72 li_72_17 (by decide) hc ?_
    refine EV_stq mx_72 (pc' := 24) (L' := [some (.ref p0), some (.int v3)]) (st' := [.ref p0, .int (-2000 : Int32)]) bo_72_20_57b5cd rfl ?_
    refine r_gA mx_72 li_72_24 fd_13_24 rfl h (fun a13 h => ?_)
    refine r_gI mx_72 li_72_27 fd_13_69 ⟨by decide, by decide⟩ h (fun v14 h => ?_)
    refine EV_stq mx_72 (pc' := 31) (L' := [some (.ref p0), some (.int v3)]) (st' := [.int ((-2000 : Int32) - v14)]) bo_72_30_0b4e4a rfl ?_
    obtain rfl := Option.some.inj h
    exact r_ret mx_72 li_72_31 rfl ro_int
  · refine r_ifT mx_72 li_72_17 (by decide) rfl hc ?_
    refine EV_stq mx_72 (pc' := 33) (L' := [some (.ref p0), some (.int v3)]) (st' := [.ref p0]) bo_72_32_191034 rfl ?_
    refine r_gA mx_72 li_72_33 fd_13_31 rfl h (fun a6 h => ?_)
    refine EV_stq mx_72 (pc' := 37) (L' := [some (.ref p0), some (.int v3)]) (st' := [.ref p0, .ref a6]) bo_72_36_befed3 rfl ?_
    refine r_gA mx_72 li_72_37 fd_13_24 rfl h (fun a7 h => ?_)
    refine h_ck h (fun hc h => ?_)
    refine h_cV h (fun M8 e h => ?_)
    refine EV_call [.ref a6, .ref a7] [] mx_72 li_72_40 rfl rfl si_13_73 rfl (by decide) (by decide) (by omega) ma_70 rfl (Nat.le_of_ble_eq_true rfl) rfl rfl (Nat.le_of_ble_eq_true rfl) (rc_1 mt_at_70 rfl rfl (by decide) hc) (e_sm_replacePipeline (by omega) a6 a7 M5 _ e) ?_
    show EV d 72 43 [some (.ref p0), some (.int v3)] [] M8 _
    refine EV_stq mx_72 (pc' := 44) (L' := [some (.ref p0), some (.int v3)]) (st' := [.ref p0]) bo_72_43_d85b47 rfl ?_
    refine r_gA mx_72 li_72_44 fd_13_40 rfl h (fun a9 h => ?_)
    refine h_ck h (fun hc h => ?_)
    refine h_cV h (fun M10 e h => ?_)
    refine EV_call [.ref a9] [] mx_72 li_72_47 rfl rfl si_13_77 rfl (by decide) (by decide) (by omega) ma_71 rfl (Nat.le_of_ble_eq_true rfl) rfl rfl (Nat.le_of_ble_eq_true rfl) (rc_1 mt_at_71 rfl rfl (by decide) hc) (e_pl_forget (by omega) a9 M8 _ e) ?_
    show EV d 72 50 [some (.ref p0), some (.int v3)] [] M10 _
    refine EV_stq mx_72 (pc' := 51) (L' := [some (.ref p0), some (.int v3)]) (st' := [.ref p0]) bo_72_50_8a8783 rfl ?_
    refine r_gA mx_72 li_72_51 fd_13_31 rfl h (fun a11 h => ?_)
    refine r_gI mx_72 li_72_54 fd_13_80 ⟨by decide, by decide⟩ h (fun v12 h => ?_)
    obtain rfl := Option.some.inj h
    exact r_ret mx_72 li_72_57 rfl ro_int
theorem e_m_here {d : Nat} (hd : 0 ≤ d) (p0 : Nat) (M : Mem) (r : Int32 × Mem) (h : f_m_here p0 M = some r) : EV d 73 0 (entL 1 [.ref p0]) [] M (some (.int r.1), r.2) := by
  show EV d 73 0 [some (.ref p0)] [] M _
  unfold f_m_here at h
  refine EV_stq mx_73 (pc' := 1) (L' := [some (.ref p0)]) (st' := [.ref p0]) bo_73_0_8d5162 rfl ?_
  refine r_gI mx_73 li_73_1 fd_14_212 ⟨by decide, by decide⟩ h (fun v1 h => ?_)
  refine EV_stq mx_73 (pc' := 5) (L' := [some (.ref p0)]) (st' := [.ref p0, .int v1]) bo_73_4_e962e2 rfl ?_
  refine r_gI mx_73 li_73_5 fd_14_208 ⟨by decide, by decide⟩ h (fun v2 h => ?_)
  refine h_ge h (fun h hc => ?_) (fun h hc => ?_)
  · refine r_icT mx_73 li_73_8 (by decide) rfl hc ?_
    refine EV_stq mx_73 (pc' := 24) (L' := [some (.ref p0)]) (st' := [.int (-1 : Int32)]) bo_73_23_b37e12 rfl ?_
    obtain rfl := Option.some.inj h
    exact r_ret mx_73 li_73_24 rfl ro_int
  · refine r_icF mx_73 li_73_8 (by decide) hc ?_
    refine EV_stq mx_73 (pc' := 12) (L' := [some (.ref p0)]) (st' := [.ref p0]) bo_73_11_081257 rfl ?_
    refine r_gA mx_73 li_73_12 fd_14_9 rfl h (fun a3 h => ?_)
    refine EV_stq mx_73 (pc' := 16) (L' := [some (.ref p0)]) (st' := [.ref p0, .ref a3]) bo_73_15_be4250 rfl ?_
    refine r_gI mx_73 li_73_16 fd_14_212 ⟨by decide, by decide⟩ h (fun v4 h => ?_)
    refine r_aI mx_73 li_73_19 h (fun v5 h => ?_)
    refine EV_stq mx_73 (pc' := 24) (L' := [some (.ref p0)]) (st' := [.int v5]) bo_73_20_baa9a0 rfl ?_
    obtain rfl := Option.some.inj h
    exact r_ret mx_73 li_73_24 rfl ro_int
theorem e_m_letter {d : Nat} (hd : 0 ≤ d) (p0 : Int32) (M : Mem) (r : Int32 × Mem) (h : f_m_letter p0 M = some r) : EV d 74 0 (entL 1 [.int p0]) [] M (some (.int r.1), r.2) := by
  show EV d 74 0 [some (.int p0)] [] M _
  unfold f_m_letter at h
  refine EV_stq mx_74 (pc' := 3) (L' := [some (.int p0)]) (st' := [.int (109 : Int32), .int p0]) bo_74_0_264884 rfl ?_
  refine h_ne h (fun h hc => ?_) (fun h hc => ?_)
  · refine r_icF mx_74 li_74_3 (by decide) hc ?_
    refine EV_stq mx_74 (pc' := 72) (L' := [some (.int p0)]) (st' := [.int (0 : Int32)]) bo_74_6_e618ed rfl ?_
    obtain rfl := Option.some.inj h
    exact r_ret mx_74 li_74_72 rfl ro_int
  · refine r_icT mx_74 li_74_3 (by decide) rfl hc ?_
    refine EV_stq mx_74 (pc' := 13) (L' := [some (.int p0)]) (st' := [.int (102 : Int32), .int p0]) bo_74_10_42a704 rfl ?_
    refine h_ne h (fun h hc => ?_) (fun h hc => ?_)
    · refine r_icF mx_74 li_74_13 (by decide) hc ?_
      refine EV_stq mx_74 (pc' := 72) (L' := [some (.int p0)]) (st' := [.int (1 : Int32)]) bo_74_16_f4f9fa rfl ?_
      obtain rfl := Option.some.inj h
      exact r_ret mx_74 li_74_72 rfl ro_int
    · refine r_icT mx_74 li_74_13 (by decide) rfl hc ?_
      refine EV_stq mx_74 (pc' := 23) (L' := [some (.int p0)]) (st' := [.int (107 : Int32), .int p0]) bo_74_20_aa2fda rfl ?_
      refine h_ne h (fun h hc => ?_) (fun h hc => ?_)
      · refine r_icF mx_74 li_74_23 (by decide) hc ?_
        refine EV_stq mx_74 (pc' := 72) (L' := [some (.int p0)]) (st' := [.int (2 : Int32)]) bo_74_26_539da0 rfl ?_
        obtain rfl := Option.some.inj h
        exact r_ret mx_74 li_74_72 rfl ro_int
      · refine r_icT mx_74 li_74_23 (by decide) rfl hc ?_
        refine EV_stq mx_74 (pc' := 33) (L' := [some (.int p0)]) (st' := [.int (99 : Int32), .int p0]) bo_74_30_e4fc54 rfl ?_
        refine h_ne h (fun h hc => ?_) (fun h hc => ?_)
        · refine r_icF mx_74 li_74_33 (by decide) hc ?_
          refine EV_stq mx_74 (pc' := 72) (L' := [some (.int p0)]) (st' := [.int (3 : Int32)]) bo_74_36_285c9e rfl ?_
          obtain rfl := Option.some.inj h
          exact r_ret mx_74 li_74_72 rfl ro_int
        · refine r_icT mx_74 li_74_33 (by decide) rfl hc ?_
          refine EV_stq mx_74 (pc' := 43) (L' := [some (.int p0)]) (st' := [.int (115 : Int32), .int p0]) bo_74_40_20557d rfl ?_
          refine h_ne h (fun h hc => ?_) (fun h hc => ?_)
          · refine r_icF mx_74 li_74_43 (by decide) hc ?_
            refine EV_stq mx_74 (pc' := 72) (L' := [some (.int p0)]) (st' := [.int (4 : Int32)]) bo_74_46_341f4e rfl ?_
            obtain rfl := Option.some.inj h
            exact r_ret mx_74 li_74_72 rfl ro_int
          · refine r_icT mx_74 li_74_43 (by decide) rfl hc ?_
            refine EV_stq mx_74 (pc' := 53) (L' := [some (.int p0)]) (st' := [.int (100 : Int32), .int p0]) bo_74_50_b22ebb rfl ?_
            refine h_ne h (fun h hc => ?_) (fun h hc => ?_)
            · refine r_icF mx_74 li_74_53 (by decide) hc ?_
              refine EV_stq mx_74 (pc' := 72) (L' := [some (.int p0)]) (st' := [.int (5 : Int32)]) bo_74_56_ba4435 rfl ?_
              obtain rfl := Option.some.inj h
              exact r_ret mx_74 li_74_72 rfl ro_int
            · refine r_icT mx_74 li_74_53 (by decide) rfl hc ?_
              refine EV_stq mx_74 (pc' := 63) (L' := [some (.int p0)]) (st' := [.int (114 : Int32), .int p0]) bo_74_60_3e1655 rfl ?_
              refine h_ne h (fun h hc => ?_) (fun h hc => ?_)
              · refine r_icF mx_74 li_74_63 (by decide) hc ?_
                refine EV_stq mx_74 (pc' := 72) (L' := [some (.int p0)]) (st' := [.int (6 : Int32)]) bo_74_66_17f18e rfl ?_
                obtain rfl := Option.some.inj h
                exact r_ret mx_74 li_74_72 rfl ro_int
              · refine r_icT mx_74 li_74_63 (by decide) rfl hc ?_
                refine EV_stq mx_74 (pc' := 72) (L' := [some (.int p0)]) (st' := [.int (-1 : Int32)]) bo_74_71_2ba9bf rfl ?_
                obtain rfl := Option.some.inj h
                exact r_ret mx_74 li_74_72 rfl ro_int
theorem e_m_sign_39 {d : Nat} (hd : 1 ≤ d) (s0 : Int32) (s1 : Int32) (s2 : Nat) (M : Mem) (r : Mem) (h : f_m_sign_39 s0 s1 s2 M = some r) : EV d 75 39 [none, none] [.int s0, .int s1, .ref s2] M (none, r) := by
  unfold f_m_sign_39 at h
  refine EV_stq mx_75 (pc' := 40) (L' := [none, none]) (st' := [.int (s1 + s0), .ref s2]) bo_75_39_4dcc25 rfl ?_
  refine r_pI mx_75 li_75_40 fd_14_212 (Or.inl rfl) rfl h (fun M1 h => ?_)
  obtain rfl := Option.some.inj h
  exact r_ret mx_75 li_75_43 rfl rfl
theorem e_m_sign_18 {d : Nat} (hd : 1 ≤ d) (l0 : Nat) (s0 : Int32) (s1 : Int32) (s2 : Nat) (M : Mem) (r : Mem) (h : f_m_sign_18 l0 s0 s1 s2 M = some r) : EV d 75 18 [some (.ref l0), none] [.int s0, .int s1, .ref s2] M (none, r) := by
  unfold f_m_sign_18 at h
  refine EV_stq mx_75 (pc' := 19) (L' := [some (.ref l0), none]) (st' := [.int (s1 ||| s0), .ref s2]) bo_75_18_2b31d8 rfl ?_
  refine r_pZ mx_75 li_75_19 fd_14_215 (Or.inl rfl) rfl h (fun M1 h => ?_)
  refine EV_stq mx_75 (pc' := 24) (L' := [some (.ref l0), none]) (st' := [.ref l0, .ref l0]) bo_75_22_13b32e rfl ?_
  refine r_gI mx_75 li_75_24 fd_14_212 ⟨by decide, by decide⟩ h (fun v2 h => ?_)
  refine EV_stq mx_75 (pc' := 28) (L' := [some (.ref l0), none]) (st' := [.ref l0, .int v2, .ref l0]) bo_75_27_58fada rfl ?_
  refine r_gI mx_75 li_75_28 fd_14_215 ⟨by decide, by decide⟩ h (fun v3 h => ?_)
  refine h_eq h (fun h hc => ?_) (fun h hc => ?_)
  · refine r_ifT mx_75 li_75_31 (by decide) rfl hc ?_
    refine EV_stq mx_75 (pc' := 39) (L' := [some (.ref l0), none]) (st' := [.int (1 : Int32), .int v2, .ref l0]) bo_75_38_c8c763 rfl ?_
    refine EV_forget (A := [none, none]) (lsub_of _ _ ⟨Or.inl rfl, ⟨Or.inl rfl, trivial⟩⟩) ?_
    exact e_m_sign_39 hd (1 : Int32) v2 l0 M1 r h
  · refine r_ifF mx_75 li_75_31 (by decide) hc ?_
    refine EV_stq mx_75 (pc' := 39) (L' := [some (.ref l0), none]) (st' := [.int (0 : Int32), .int v2, .ref l0]) bo_75_34_812988 rfl ?_
    refine EV_forget (A := [none, none]) (lsub_of _ _ ⟨Or.inl rfl, ⟨Or.inl rfl, trivial⟩⟩) ?_
    exact e_m_sign_39 hd (0 : Int32) v2 l0 M1 r h
theorem e_m_sign {d : Nat} (hd : 1 ≤ d) (p0 : Nat) (p1 : Int32) (M : Mem) (r : Mem) (h : f_m_sign p0 p1 M = some r) : EV d 75 0 (entL 2 [.ref p0, .int p1]) [] M (none, r) := by
  show EV d 75 0 [some (.ref p0), some (.int p1)] [] M _
  unfold f_m_sign at h
  refine EV_stq mx_75 (pc' := 2) (L' := [some (.ref p0), some (.int p1)]) (st' := [.ref p0, .ref p0]) bo_75_0_264884 rfl ?_
  refine r_gI mx_75 li_75_2 fd_14_215 ⟨by decide, by decide⟩ h (fun v1 h => ?_)
  refine EV_stq mx_75 (pc' := 6) (L' := [some (.ref p0), some (.int p1)]) (st' := [.ref p0, .int v1, .ref p0]) bo_75_5_7b98d2 rfl ?_
  refine h_ck h (fun hc h => ?_)
  refine h_cI h (fun v3 M2 e h => ?_)
  refine EV_call [.ref p0] [.int v1, .ref p0] mx_75 li_75_6 rfl rfl si_14_219 rfl (by decide) (by decide) (by omega) ma_73 rfl (Nat.le_of_ble_eq_true rfl) rfl rfl (Nat.le_of_ble_eq_true rfl) (rc_1 mt_at_73 rfl rfl (by decide) hc) (e_m_here (by omega) p0 M _ e) ?_
  show EV d 75 9 [some (.ref p0), some (.int p1)] [.int v3, .int v1, .ref p0] M2 _
  refine EV_stq mx_75 (pc' := 10) (L' := [some (.ref p0), some (.int p1)]) (st' := [.int p1, .int v3, .int v1, .ref p0]) bo_75_9_afbef6 rfl ?_
  refine h_eq h (fun h hc => ?_) (fun h hc => ?_)
  · refine r_icT mx_75 li_75_10 (by decide) rfl hc ?_
    refine EV_stq mx_75 (pc' := 18) (L' := [some (.ref p0), some (.int p1)]) (st' := [.int (0 : Int32), .int v1, .ref p0]) bo_75_17_509256 rfl ?_
    refine EV_forget (A := [some (.ref p0), none]) (lsub_of _ _ ⟨Or.inr rfl, ⟨Or.inl rfl, trivial⟩⟩) ?_
    exact e_m_sign_18 hd p0 (0 : Int32) v1 p0 M2 r h
  · refine r_icF mx_75 li_75_10 (by decide) hc ?_
    refine EV_stq mx_75 (pc' := 18) (L' := [some (.ref p0), some (.int p1)]) (st' := [.int (1 : Int32), .int v1, .ref p0]) bo_75_13_1f05a9 rfl ?_
    refine EV_forget (A := [some (.ref p0), none]) (lsub_of _ _ ⟨Or.inr rfl, ⟨Or.inl rfl, trivial⟩⟩) ?_
    exact e_m_sign_18 hd p0 (1 : Int32) v1 p0 M2 r h
theorem e_m_number_162 {d : Nat} (hd : 1 ≤ d) (l4 : Int32) (s0 : Int32) (s1 : Int32) (s2 : Nat) (M : Mem) (r : Int32 × Mem) (h : f_m_number_162 l4 s0 s1 s2 M = some r) : EV d 76 162 [none, none, none, none, some (.int l4)] [.int s0, .int s1, .ref s2] M (some (.int r.1), r.2) := by
  unfold f_m_number_162 at h
  refine EV_stq mx_76 (pc' := 163) (L' := [none, none, none, none, some (.int l4)]) (st' := [.int (s1 ||| s0), .ref s2]) bo_76_162_7ec365 rfl ?_
  refine r_pZ mx_76 li_76_163 fd_14_215 (Or.inl rfl) rfl h (fun M1 h => ?_)
  refine EV_stq mx_76 (pc' := 168) (L' := [none, none, none, none, some (.int l4)]) (st' := [.int l4]) bo_76_166_78cd3a rfl ?_
  obtain rfl := Option.some.inj h
  exact r_ret mx_76 li_76_168 rfl ro_int
theorem e_m_number_140 {d : Nat} (hd : 1 ≤ d) (l0 : Nat) (l1 : Int32) (l2 : Int32) (s0 : Int32) (M : Mem) (r : Int32 × Mem) (h : f_m_number_140 l0 l1 l2 s0 M = some r) : EV d 76 140 [some (.ref l0), some (.int l1), some (.int l2), none, none] [.int s0] M (some (.int r.1), r.2) := by
  unfold f_m_number_140 at h
  refine EV_stq mx_76 (pc' := 144) (L' := [some (.ref l0), some (.int l1), some (.int l2), none, some (.int s0)]) (st' := [.ref l0, .ref l0]) bo_76_140_4942c4 rfl ?_
  refine r_gI mx_76 li_76_144 fd_14_215 ⟨by decide, by decide⟩ h (fun v1 h => ?_)
  refine EV_stq mx_76 (pc' := 151) (L' := [some (.ref l0), some (.int l1), some (.int l2), none, some (.int s0)]) (st' := [.int l2, .int l1, .int s0, .int v1, .ref l0]) bo_76_147_4d9f19 rfl ?_
  refine h_cI h (fun v3 M2 e h => ?_)
  refine EV_call [.int s0, .int l1, .int l2] [.int v1, .ref l0] mx_76 li_76_151 rfl rfl si_14_203 rfl (by decide) (by decide) (by omega) ma_29 rfl (Nat.le_of_ble_eq_true rfl) rfl rfl (Nat.le_of_ble_eq_true rfl) rfl (e_m_isIn (by omega) s0 l1 l2 M _ e) ?_
  show EV d 76 154 [some (.ref l0), some (.int l1), some (.int l2), none, some (.int s0)] [.int v3, .int v1, .ref l0] M2 _
  refine h_ne h (fun h hc => ?_) (fun h hc => ?_)
  · refine r_ifF mx_76 li_76_154 (by decide) hc ?_
    refine EV_stq mx_76 (pc' := 162) (L' := [some (.ref l0), some (.int l1), some (.int l2), none, some (.int s0)]) (st' := [.int (1 : Int32), .int v1, .ref l0]) bo_76_157_a33bc5 rfl ?_
    refine EV_forget (A := [none, none, none, none, some (.int s0)]) (lsub_of _ _ ⟨Or.inl rfl, ⟨Or.inl rfl, ⟨Or.inl rfl, ⟨Or.inl rfl, ⟨Or.inr rfl, trivial⟩⟩⟩⟩⟩) ?_
    exact e_m_number_162 hd s0 (1 : Int32) v1 l0 M2 r h
  · refine r_ifT mx_76 li_76_154 (by decide) rfl hc ?_
    refine EV_stq mx_76 (pc' := 162) (L' := [some (.ref l0), some (.int l1), some (.int l2), none, some (.int s0)]) (st' := [.int (0 : Int32), .int v1, .ref l0]) bo_76_161_f5f45a rfl ?_
    refine EV_forget (A := [none, none, none, none, some (.int s0)]) (lsub_of _ _ ⟨Or.inl rfl, ⟨Or.inl rfl, ⟨Or.inl rfl, ⟨Or.inl rfl, ⟨Or.inr rfl, trivial⟩⟩⟩⟩⟩) ?_
    exact e_m_number_162 hd s0 (0 : Int32) v1 l0 M2 r h
theorem e_m_number_128 {d : Nat} (hd : 1 ≤ d) (l0 : Nat) (l1 : Int32) (l2 : Int32) (l3 : Int32) (l4 : Int32) (M : Mem) (r : Int32 × Mem) (h : f_m_number_128 l0 l1 l2 l3 l4 M = some r) : EV d 76 128 [some (.ref l0), some (.int l1), some (.int l2), some (.int l3), some (.int l4)] [] M (some (.int r.1), r.2) := by
  unfold f_m_number_128 at h
  refine EV_stq mx_76 (pc' := 129) (L' := [some (.ref l0), some (.int l1), some (.int l2), some (.int l3), some (.int l4)]) (st' := [.int l3]) bo_76_128_5d5c9c rfl ?_
  refine h_eq h (fun h hc => ?_) (fun h hc => ?_)
  · refine r_ifT mx_76 li_76_129 (by decide) rfl hc ?_
    refine EV_stq mx_76 (pc' := 140) (L' := [some (.ref l0), some (.int l1), some (.int l2), some (.int l3), some (.int l4)]) (st' := [.int l4]) bo_76_138_dc044b rfl ?_
    refine EV_forget (A := [some (.ref l0), some (.int l1), some (.int l2), none, none]) (lsub_of _ _ ⟨Or.inr rfl, ⟨Or.inr rfl, ⟨Or.inr rfl, ⟨Or.inl rfl, ⟨Or.inl rfl, trivial⟩⟩⟩⟩⟩) ?_
    exact e_m_number_140 hd l0 l1 l2 l4 M r h
  · refine r_ifF mx_76 li_76_129 (by decide) hc ?_
    refine EV_stq mx_76 (pc' := 140) (L' := [some (.ref l0), some (.int l1), some (.int l2), some (.int l3), some (.int l4)]) (st' := [.int (-l4)]) bo_76_132_967124 rfl ?_
    refine EV_forget (A := [some (.ref l0), some (.int l1), some (.int l2), none, none]) (lsub_of _ _ ⟨Or.inr rfl, ⟨Or.inr rfl, ⟨Or.inr rfl, ⟨Or.inl rfl, ⟨Or.inl rfl, trivial⟩⟩⟩⟩⟩) ?_
    exact e_m_number_140 hd l0 l1 l2 (-l4) M r h
theorem e_m_number_57 {d : Nat} (hd : 1 ≤ d) (l0 : Nat) (l1 : Int32) (l2 : Int32) (l3 : Int32) (s0 : Int32) (s1 : Int32) (s2 : Nat) (M : Mem) (r : Int32 × Mem) (h : f_m_number_57 l0 l1 l2 l3 s0 s1 s2 M = some r) : EV d 76 57 [some (.ref l0), some (.int l1), some (.int l2), some (.int l3), none] [.int s0, .int s1, .ref s2] M (some (.int r.1), r.2) := by
  unfold f_m_number_57 at h
  refine EV_stq mx_76 (pc' := 58) (L' := [some (.ref l0), some (.int l1), some (.int l2), some (.int l3), none]) (st' := [.int (s1 ||| s0), .ref s2]) bo_76_57_a9d9a3 rfl ?_
  refine r_pZ mx_76 li_76_58 fd_14_215 (Or.inl rfl) rfl h (fun M1 h => ?_)
  refine EV_stq mx_76 (pc' := 62) (L' := [some (.ref l0), some (.int l1), some (.int l2), some (.int l3), none]) (st' := [.ref l0]) bo_76_61_769b30 rfl ?_
  refine r_gI mx_76 li_76_62 fd_14_215 ⟨by decide, by decide⟩ h (fun v2 h => ?_)
  refine h_eq h (fun h hc => ?_) (fun h hc => ?_)
  · refine r_ifT mx_76 li_76_65 (by decide) rfl hc ?_
    refine EV_stq mx_76 (pc' := 71) (L' := [some (.ref l0), some (.int l1), some (.int l2), some (.int l3), none]) (st' := [.ref l0]) bo_76_70_a81b5d rfl ?_
    refine h_ck h (fun hc h => ?_)
    refine h_cI h (fun v4 M3 e h => ?_)
    refine EV_call [.ref l0] [] mx_76 li_76_71 rfl rfl si_14_219 rfl (by decide) (by decide) (by omega) ma_73 rfl (Nat.le_of_ble_eq_true rfl) rfl rfl (Nat.le_of_ble_eq_true rfl) (rc_1 mt_at_73 rfl rfl (by decide) hc) (e_m_here (by omega) l0 M1 _ e) ?_
    show EV d 76 74 [some (.ref l0), some (.int l1), some (.int l2), some (.int l3), none] [.int v4] M3 _
    refine EV_stq mx_76 (pc' := 81) (L' := [some (.ref l0), some (.int l1), some (.int l2), some (.int l3), some (.int (v4 - (48 : Int32)))]) (st' := [.ref l0, .ref l0]) bo_76_74_37337f rfl ?_
    refine r_gI mx_76 li_76_81 fd_14_212 ⟨by decide, by decide⟩ h (fun v5 h => ?_)
    refine EV_stq mx_76 (pc' := 86) (L' := [some (.ref l0), some (.int l1), some (.int l2), some (.int l3), some (.int (v4 - (48 : Int32)))]) (st' := [.int (v5 + (1 : Int32)), .ref l0]) bo_76_84_fc726c rfl ?_
    refine r_pI mx_76 li_76_86 fd_14_212 (Or.inl rfl) rfl h (fun M6 h => ?_)
    refine EV_stq mx_76 (pc' := 90) (L' := [some (.ref l0), some (.int l1), some (.int l2), some (.int l3), some (.int (v4 - (48 : Int32)))]) (st' := [.ref l0]) bo_76_89_bbca9b rfl ?_
    refine h_ck h (fun hc h => ?_)
    refine h_cI h (fun v8 M7 e h => ?_)
    refine EV_call [.ref l0] [] mx_76 li_76_90 rfl rfl si_14_219 rfl (by decide) (by decide) (by omega) ma_73 rfl (Nat.le_of_ble_eq_true rfl) rfl rfl (Nat.le_of_ble_eq_true rfl) (rc_1 mt_at_73 rfl rfl (by decide) hc) (e_m_here (by omega) l0 M6 _ e) ?_
    show EV d 76 93 [some (.ref l0), some (.int l1), some (.int l2), some (.int l3), some (.int (v4 - (48 : Int32)))] [.int v8] M7 _
    refine EV_stq mx_76 (pc' := 97) (L' := [some (.ref l0), some (.int l1), some (.int l2), some (.int l3), some (.int (v4 - (48 : Int32)))]) (st' := [.int (57 : Int32), .int (48 : Int32), .int v8]) bo_76_93_f2137b rfl ?_
    refine h_cI h (fun v10 M9 e h => ?_)
    refine EV_call [.int v8, .int (48 : Int32), .int (57 : Int32)] [] mx_76 li_76_97 rfl rfl si_14_203 rfl (by decide) (by decide) (by omega) ma_29 rfl (Nat.le_of_ble_eq_true rfl) rfl rfl (Nat.le_of_ble_eq_true rfl) rfl (e_m_isIn (by omega) v8 (48 : Int32) (57 : Int32) M7 _ e) ?_
    show EV d 76 100 [some (.ref l0), some (.int l1), some (.int l2), some (.int l3), some (.int (v4 - (48 : Int32)))] [.int v10] M9 _
    refine h_eq h (fun h hc => ?_) (fun h hc => ?_)
    · refine r_ifT mx_76 li_76_100 (by decide) rfl hc ?_
      exact e_m_number_128 hd l0 l1 l2 l3 (v4 - (48 : Int32)) M9 r h
    · refine r_ifF mx_76 li_76_100 (by decide) hc ?_
      refine EV_stq mx_76 (pc' := 109) (L' := [some (.ref l0), some (.int l1), some (.int l2), some (.int l3), some (.int (v4 - (48 : Int32)))]) (st' := [.ref l0, .int ((10 : Int32) * (v4 - (48 : Int32)))]) bo_76_103_bc4ef0 rfl ?_
      refine h_ck h (fun hc h => ?_)
      refine h_cI h (fun v12 M11 e h => ?_)
      refine EV_call [.ref l0] [.int ((10 : Int32) * (v4 - (48 : Int32)))] mx_76 li_76_109 rfl rfl si_14_219 rfl (by decide) (by decide) (by omega) ma_73 rfl (Nat.le_of_ble_eq_true rfl) rfl rfl (Nat.le_of_ble_eq_true rfl) (rc_1 mt_at_73 rfl rfl (by decide) hc) (e_m_here (by omega) l0 M9 _ e) ?_
      show EV d 76 112 [some (.ref l0), some (.int l1), some (.int l2), some (.int l3), some (.int (v4 - (48 : Int32)))] [.int v12, .int ((10 : Int32) * (v4 - (48 : Int32)))] M11 _
      refine EV_stq mx_76 (pc' := 120) (L' := [some (.ref l0), some (.int l1), some (.int l2), some (.int l3), some (.int ((((10 : Int32) * (v4 - (48 : Int32))) + v12) - (48 : Int32)))]) (st' := [.ref l0, .ref l0]) bo_76_112_ce4ace rfl ?_
      refine r_gI mx_76 li_76_120 fd_14_212 ⟨by decide, by decide⟩ h (fun v13 h => ?_)
      refine EV_stq mx_76 (pc' := 125) (L' := [some (.ref l0), some (.int l1), some (.int l2), some (.int l3), some (.int ((((10 : Int32) * (v4 - (48 : Int32))) + v12) - (48 : Int32)))]) (st' := [.int (v13 + (1 : Int32)), .ref l0]) bo_76_123_30aefa rfl ?_
      refine r_pI mx_76 li_76_125 fd_14_212 (Or.inl rfl) rfl h (fun M14 h => ?_)
      exact e_m_number_128 hd l0 l1 l2 l3 ((((10 : Int32) * (v4 - (48 : Int32))) + v12) - (48 : Int32)) M14 r h
  · refine r_ifF mx_76 li_76_65 (by decide) hc ?_
    refine EV_stq mx_76 (pc' := 69) (L' := [some (.ref l0), some (.int l1), some (.int l2), some (.int l3), none]) (st' := [.int (0 : Int32)]) bo_76_68_7584e0 rfl ?_
    obtain rfl := Option.some.inj h
    exact r_ret mx_76 li_76_69 rfl ro_int
theorem e_m_number_29 {d : Nat} (hd : 1 ≤ d) (l0 : Nat) (l1 : Int32) (l2 : Int32) (l3 : Int32) (s0 : Int32) (s1 : Int32) (s2 : Nat) (M : Mem) (r : Int32 × Mem) (h : f_m_number_29 l0 l1 l2 l3 s0 s1 s2 M = some r) : EV d 76 29 [some (.ref l0), some (.int l1), some (.int l2), some (.int l3), none] [.int s0, .int s1, .ref s2] M (some (.int r.1), r.2) := by
  unfold f_m_number_29 at h
  refine EV_stq mx_76 (pc' := 30) (L' := [some (.ref l0), some (.int l1), some (.int l2), some (.int l3), none]) (st' := [.int (s1 + s0), .ref s2]) bo_76_29_2d7a5f rfl ?_
  refine r_pI mx_76 li_76_30 fd_14_212 (Or.inl rfl) rfl h (fun M1 h => ?_)
  refine EV_stq mx_76 (pc' := 35) (L' := [some (.ref l0), some (.int l1), some (.int l2), some (.int l3), none]) (st' := [.ref l0, .ref l0]) bo_76_33_9ed66c rfl ?_
  refine r_gI mx_76 li_76_35 fd_14_215 ⟨by decide, by decide⟩ h (fun v2 h => ?_)
  refine EV_stq mx_76 (pc' := 39) (L' := [some (.ref l0), some (.int l1), some (.int l2), some (.int l3), none]) (st' := [.ref l0, .int v2, .ref l0]) bo_76_38_c8c763 rfl ?_
  refine h_ck h (fun hc h => ?_)
  refine h_cI h (fun v4 M3 e h => ?_)
  refine EV_call [.ref l0] [.int v2, .ref l0] mx_76 li_76_39 rfl rfl si_14_219 rfl (by decide) (by decide) (by omega) ma_73 rfl (Nat.le_of_ble_eq_true rfl) rfl rfl (Nat.le_of_ble_eq_true rfl) (rc_1 mt_at_73 rfl rfl (by decide) hc) (e_m_here (by omega) l0 M1 _ e) ?_
  show EV d 76 42 [some (.ref l0), some (.int l1), some (.int l2), some (.int l3), none] [.int v4, .int v2, .ref l0] M3 _
  refine EV_stq mx_76 (pc' := 46) (L' := [some (.ref l0), some (.int l1), some (.int l2), some (.int l3), none]) (st' := [.int (57 : Int32), .int (48 : Int32), .int v4, .int v2, .ref l0]) bo_76_42_9a2b64 rfl ?_
  refine h_cI h (fun v6 M5 e h => ?_)
  refine EV_call [.int v4, .int (48 : Int32), .int (57 : Int32)] [.int v2, .ref l0] mx_76 li_76_46 rfl rfl si_14_203 rfl (by decide) (by decide) (by omega) ma_29 rfl (Nat.le_of_ble_eq_true rfl) rfl rfl (Nat.le_of_ble_eq_true rfl) rfl (e_m_isIn (by omega) v4 (48 : Int32) (57 : Int32) M3 _ e) ?_
  show EV d 76 49 [some (.ref l0), some (.int l1), some (.int l2), some (.int l3), none] [.int v6, .int v2, .ref l0] M5 _
  refine h_ne h (fun h hc => ?_) (fun h hc => ?_)
  · refine r_ifF mx_76 li_76_49 (by decide) hc ?_
    refine EV_stq mx_76 (pc' := 57) (L' := [some (.ref l0), some (.int l1), some (.int l2), some (.int l3), none]) (st' := [.int (1 : Int32), .int v2, .ref l0]) bo_76_52_9f6391 rfl ?_
    exact e_m_number_57 hd l0 l1 l2 l3 (1 : Int32) v2 l0 M5 r h
  · refine r_ifT mx_76 li_76_49 (by decide) rfl hc ?_
    refine EV_stq mx_76 (pc' := 57) (L' := [some (.ref l0), some (.int l1), some (.int l2), some (.int l3), none]) (st' := [.int (0 : Int32), .int v2, .ref l0]) bo_76_56_350148 rfl ?_
    exact e_m_number_57 hd l0 l1 l2 l3 (0 : Int32) v2 l0 M5 r h
theorem e_m_number_14 {d : Nat} (hd : 1 ≤ d) (l0 : Nat) (l1 : Int32) (l2 : Int32) (s0 : Int32) (M : Mem) (r : Int32 × Mem) (h : f_m_number_14 l0 l1 l2 s0 M = some r) : EV d 76 14 [some (.ref l0), some (.int l1), some (.int l2), none, none] [.int s0] M (some (.int r.1), r.2) := by
  unfold f_m_number_14 at h
  refine EV_stq mx_76 (pc' := 17) (L' := [some (.ref l0), some (.int l1), some (.int l2), some (.int s0), none]) (st' := [.ref l0, .ref l0]) bo_76_14_7ac8d1 rfl ?_
  refine r_gI mx_76 li_76_17 fd_14_212 ⟨by decide, by decide⟩ h (fun v1 h => ?_)
  refine EV_stq mx_76 (pc' := 21) (L' := [some (.ref l0), some (.int l1), some (.int l2), some (.int s0), none]) (st' := [.int s0, .int v1, .ref l0]) bo_76_20_baa9a0 rfl ?_
  refine h_eq h (fun h hc => ?_) (fun h hc => ?_)
  · refine r_ifT mx_76 li_76_21 (by decide) rfl hc ?_
    refine EV_stq mx_76 (pc' := 29) (L' := [some (.ref l0), some (.int l1), some (.int l2), some (.int s0), none]) (st' := [.int (0 : Int32), .int v1, .ref l0]) bo_76_28_f39cd0 rfl ?_
    exact e_m_number_29 hd l0 l1 l2 s0 (0 : Int32) v1 l0 M r h
  · refine r_ifF mx_76 li_76_21 (by decide) hc ?_
    refine EV_stq mx_76 (pc' := 29) (L' := [some (.ref l0), some (.int l1), some (.int l2), some (.int s0), none]) (st' := [.int (1 : Int32), .int v1, .ref l0]) bo_76_24_35ae4e rfl ?_
    exact e_m_number_29 hd l0 l1 l2 s0 (1 : Int32) v1 l0 M r h
theorem e_m_number {d : Nat} (hd : 1 ≤ d) (p0 : Nat) (p1 : Int32) (p2 : Int32) (M : Mem) (r : Int32 × Mem) (h : f_m_number p0 p1 p2 M = some r) : EV d 76 0 (entL 5 [.ref p0, .int p1, .int p2]) [] M (some (.int r.1), r.2) := by
  show EV d 76 0 [some (.ref p0), some (.int p1), some (.int p2), none, none] [] M _
  unfold f_m_number at h
  refine EV_stq mx_76 (pc' := 1) (L' := [some (.ref p0), some (.int p1), some (.int p2), none, none]) (st' := [.ref p0]) bo_76_0_8d5162 rfl ?_
  refine h_ck h (fun hc h => ?_)
  refine h_cI h (fun v2 M1 e h => ?_)
  refine EV_call [.ref p0] [] mx_76 li_76_1 rfl rfl si_14_219 rfl (by decide) (by decide) (by omega) ma_73 rfl (Nat.le_of_ble_eq_true rfl) rfl rfl (Nat.le_of_ble_eq_true rfl) (rc_1 mt_at_73 rfl rfl (by decide) hc) (e_m_here (by omega) p0 M _ e) ?_
  show EV d 76 4 [some (.ref p0), some (.int p1), some (.int p2), none, none] [.int v2] M1 _
  refine EV_stq mx_76 (pc' := 6) (L' := [some (.ref p0), some (.int p1), some (.int p2), none, none]) (st' := [.int (45 : Int32), .int v2]) bo_76_4_e962e2 rfl ?_
  refine h_ne h (fun h hc => ?_) (fun h hc => ?_)
  · refine r_icF mx_76 li_76_6 (by decide) hc ?_
    refine EV_stq mx_76 (pc' := 14) (L' := [some (.ref p0), some (.int p1), some (.int p2), none, none]) (st' := [.int (1 : Int32)]) bo_76_9_16efa2 rfl ?_
    exact e_m_number_14 hd p0 p1 p2 (1 : Int32) M1 r h
  · refine r_icT mx_76 li_76_6 (by decide) rfl hc ?_
    refine EV_stq mx_76 (pc' := 14) (L' := [some (.ref p0), some (.int p1), some (.int p2), none, none]) (st' := [.int (0 : Int32)]) bo_76_13_15f019 rfl ?_
    exact e_m_number_14 hd p0 p1 p2 (0 : Int32) M1 r h
theorem e_m_instances_48 {d : Nat} (hd : 1 ≤ d) (l1 : Int32) (s0 : Int32) (s1 : Int32) (s2 : Nat) (M : Mem) (r : Int32 × Mem) (h : f_m_instances_48 l1 s0 s1 s2 M = some r) : EV d 77 48 [none, some (.int l1)] [.int s0, .int s1, .ref s2] M (some (.int r.1), r.2) := by
  unfold f_m_instances_48 at h
  refine EV_stq mx_77 (pc' := 49) (L' := [none, some (.int l1)]) (st' := [.int (s1 + s0), .ref s2]) bo_77_48_04c55a rfl ?_
  refine r_pI mx_77 li_77_49 fd_14_212 (Or.inl rfl) rfl h (fun M1 h => ?_)
  refine EV_stq mx_77 (pc' := 53) (L' := [none, some (.int l1)]) (st' := [.int l1]) bo_77_52_118d3f rfl ?_
  obtain rfl := Option.some.inj h
  exact r_ret mx_77 li_77_53 rfl ro_int
theorem e_m_instances_27 {d : Nat} (hd : 1 ≤ d) (l0 : Nat) (l1 : Int32) (s0 : Int32) (s1 : Int32) (s2 : Nat) (M : Mem) (r : Int32 × Mem) (h : f_m_instances_27 l0 l1 s0 s1 s2 M = some r) : EV d 77 27 [some (.ref l0), some (.int l1)] [.int s0, .int s1, .ref s2] M (some (.int r.1), r.2) := by
  unfold f_m_instances_27 at h
  refine EV_stq mx_77 (pc' := 28) (L' := [some (.ref l0), some (.int l1)]) (st' := [.int (s1 ||| s0), .ref s2]) bo_77_27_58fada rfl ?_
  refine r_pZ mx_77 li_77_28 fd_14_215 (Or.inl rfl) rfl h (fun M1 h => ?_)
  refine EV_stq mx_77 (pc' := 33) (L' := [some (.ref l0), some (.int l1)]) (st' := [.ref l0, .ref l0]) bo_77_31_f6932f rfl ?_
  refine r_gI mx_77 li_77_33 fd_14_212 ⟨by decide, by decide⟩ h (fun v2 h => ?_)
  refine EV_stq mx_77 (pc' := 37) (L' := [some (.ref l0), some (.int l1)]) (st' := [.ref l0, .int v2, .ref l0]) bo_77_36_befed3 rfl ?_
  refine r_gI mx_77 li_77_37 fd_14_215 ⟨by decide, by decide⟩ h (fun v3 h => ?_)
  refine h_eq h (fun h hc => ?_) (fun h hc => ?_)
  · refine r_ifT mx_77 li_77_40 (by decide) rfl hc ?_
    refine EV_stq mx_77 (pc' := 48) (L' := [some (.ref l0), some (.int l1)]) (st' := [.int (1 : Int32), .int v2, .ref l0]) bo_77_47_d7fa8e rfl ?_
    refine EV_forget (A := [none, some (.int l1)]) (lsub_of _ _ ⟨Or.inl rfl, ⟨Or.inr rfl, trivial⟩⟩) ?_
    exact e_m_instances_48 hd l1 (1 : Int32) v2 l0 M1 r h
  · refine r_ifF mx_77 li_77_40 (by decide) hc ?_
    refine EV_stq mx_77 (pc' := 48) (L' := [some (.ref l0), some (.int l1)]) (st' := [.int (0 : Int32), .int v2, .ref l0]) bo_77_43_98bd08 rfl ?_
    refine EV_forget (A := [none, some (.int l1)]) (lsub_of _ _ ⟨Or.inl rfl, ⟨Or.inr rfl, trivial⟩⟩) ?_
    exact e_m_instances_48 hd l1 (0 : Int32) v2 l0 M1 r h
theorem e_m_instances {d : Nat} (hd : 1 ≤ d) (p0 : Nat) (M : Mem) (r : Int32 × Mem) (h : f_m_instances p0 M = some r) : EV d 77 0 (entL 2 [.ref p0]) [] M (some (.int r.1), r.2) := by
  show EV d 77 0 [some (.ref p0), none] [] M _
  unfold f_m_instances at h
  refine EV_stq mx_77 (pc' := 1) (L' := [some (.ref p0), none]) (st' := [.ref p0]) bo_77_0_8d5162 rfl ?_
  refine h_ck h (fun hc h => ?_)
  refine h_cI h (fun v2 M1 e h => ?_)
  refine EV_call [.ref p0] [] mx_77 li_77_1 rfl rfl si_14_219 rfl (by decide) (by decide) (by omega) ma_73 rfl (Nat.le_of_ble_eq_true rfl) rfl rfl (Nat.le_of_ble_eq_true rfl) (rc_1 mt_at_73 rfl rfl (by decide) hc) (e_m_here (by omega) p0 M _ e) ?_
  show EV d 77 4 [some (.ref p0), none] [.int v2] M1 _
  refine EV_stq mx_77 (pc' := 10) (L' := [some (.ref p0), some (.int (v2 - (48 : Int32)))]) (st' := [.ref p0, .ref p0]) bo_77_4_e9058f rfl ?_
  refine r_gI mx_77 li_77_10 fd_14_215 ⟨by decide, by decide⟩ h (fun v3 h => ?_)
  refine EV_stq mx_77 (pc' := 16) (L' := [some (.ref p0), some (.int (v2 - (48 : Int32)))]) (st' := [.int (3 : Int32), .int (1 : Int32), .int (v2 - (48 : Int32)), .int v3, .ref p0]) bo_77_13_ac7d50 rfl ?_
  refine h_cI h (fun v5 M4 e h => ?_)
  refine EV_call [.int (v2 - (48 : Int32)), .int (1 : Int32), .int (3 : Int32)] [.int v3, .ref p0] mx_77 li_77_16 rfl rfl si_14_203 rfl (by decide) (by decide) (by omega) ma_29 rfl (Nat.le_of_ble_eq_true rfl) rfl rfl (Nat.le_of_ble_eq_true rfl) rfl (e_m_isIn (by omega) (v2 - (48 : Int32)) (1 : Int32) (3 : Int32) M1 _ e) ?_
  show EV d 77 19 [some (.ref p0), some (.int (v2 - (48 : Int32)))] [.int v5, .int v3, .ref p0] M4 _
  refine h_ne h (fun h hc => ?_) (fun h hc => ?_)
  · refine r_ifF mx_77 li_77_19 (by decide) hc ?_
    refine EV_stq mx_77 (pc' := 27) (L' := [some (.ref p0), some (.int (v2 - (48 : Int32)))]) (st' := [.int (1 : Int32), .int v3, .ref p0]) bo_77_22_13b32e rfl ?_
    exact e_m_instances_27 hd p0 (v2 - (48 : Int32)) (1 : Int32) v3 p0 M4 r h
  · refine r_ifT mx_77 li_77_19 (by decide) rfl hc ?_
    refine EV_stq mx_77 (pc' := 27) (L' := [some (.ref p0), some (.int (v2 - (48 : Int32)))]) (st' := [.int (0 : Int32), .int v3, .ref p0]) bo_77_26_bd3b31 rfl ?_
    exact e_m_instances_27 hd p0 (v2 - (48 : Int32)) (0 : Int32) v3 p0 M4 r h
theorem e_m_stage_211 {d : Nat} (hd : 2 ≤ d) (l0 : Nat) (l1 : Int32) (M : Mem) (r : Mem) (h : f_m_stage_211 l0 l1 M = some r) : EV d 78 211 [some (.ref l0), some (.int l1), none] [] M (none, r) := by
  unfold f_m_stage_211 at h
  refine EV_stq mx_78 (pc' := 212) (L' := [some (.ref l0), some (.int l1), none]) (st' := [.ref l0]) bo_78_211_fe9fe9 rfl ?_
  refine r_gI mx_78 li_78_212 fd_14_215 ⟨by decide, by decide⟩ h (fun v1 h => ?_)
  refine h_ne h (fun h hc => ?_) (fun h hc => ?_)
  · refine r_ifF mx_78 li_78_215 (by decide) hc ?_
    refine EV_stq mx_78 (pc' := 219) (L' := [some (.ref l0), some (.int l1), none]) (st' := [.ref l0]) bo_78_218_eb43dd rfl ?_
    refine h_ck h (fun hc h => ?_)
    refine h_cI h (fun v3 M2 e h => ?_)
    refine EV_call [.ref l0] [] mx_78 li_78_219 rfl rfl si_14_219 rfl (by decide) (by decide) (by omega) ma_73 rfl (Nat.le_of_ble_eq_true rfl) rfl rfl (Nat.le_of_ble_eq_true rfl) (rc_1 mt_at_73 rfl rfl (by decide) hc) (e_m_here (by omega) l0 M _ e) ?_
    show EV d 78 222 [some (.ref l0), some (.int l1), none] [.int v3] M2 _
    refine EV_stq mx_78 (pc' := 226) (L' := [some (.ref l0), some (.int l1), none]) (st' := [.int (57 : Int32), .int (48 : Int32), .int v3]) bo_78_222_8fbd04 rfl ?_
    refine h_cI h (fun v5 M4 e h => ?_)
    refine EV_call [.int v3, .int (48 : Int32), .int (57 : Int32)] [] mx_78 li_78_226 rfl rfl si_14_203 rfl (by decide) (by decide) (by omega) ma_29 rfl (Nat.le_of_ble_eq_true rfl) rfl rfl (Nat.le_of_ble_eq_true rfl) rfl (e_m_isIn (by omega) v3 (48 : Int32) (57 : Int32) M2 _ e) ?_
    show EV d 78 229 [some (.ref l0), some (.int l1), none] [.int v5] M4 _
    refine h_eq h (fun h hc => ?_) (fun h hc => ?_)
    · refine r_ifT mx_78 li_78_229 (by decide) rfl hc ?_
      obtain rfl := Option.some.inj h
      exact r_ret mx_78 li_78_242 rfl rfl
    · refine r_ifF mx_78 li_78_229 (by decide) hc ?_
      refine EV_stq mx_78 (pc' := 233) (L' := [some (.ref l0), some (.int l1), none]) (st' := [.ref l0]) bo_78_232_d77f52 rfl ?_
      refine r_gA mx_78 li_78_233 fd_14_160 rfl h (fun a6 h => ?_)
      refine EV_stq mx_78 (pc' := 238) (L' := [some (.ref l0), some (.int l1), none]) (st' := [.ref l0, .int l1, .ref a6]) bo_78_236_e7c6f5 rfl ?_
      refine h_ck h (fun hc h => ?_)
      refine h_cI h (fun v8 M7 e h => ?_)
      refine EV_call [.ref l0] [.int l1, .ref a6] mx_78 li_78_238 rfl rfl si_14_234 rfl (by decide) (by decide) (by omega) ma_77 rfl (Nat.le_of_ble_eq_true rfl) rfl rfl (Nat.le_of_ble_eq_true rfl) (rc_1 mt_at_77 rfl rfl (by decide) hc) (e_m_instances (by omega) l0 M4 _ e) ?_
      show EV d 78 241 [some (.ref l0), some (.int l1), none] [.int v8, .int l1, .ref a6] M7 _
      refine r_sI mx_78 li_78_241 h (fun M9 h => ?_)
      obtain rfl := Option.some.inj h
      exact r_ret mx_78 li_78_242 rfl rfl
  · refine r_ifT mx_78 li_78_215 (by decide) rfl hc ?_
    obtain rfl := Option.some.inj h
    exact r_ret mx_78 li_78_242 rfl rfl
theorem e_m_stage_198 {d : Nat} (hd : 2 ≤ d) (l0 : Nat) (l1 : Int32) (M : Mem) (r : Mem) (h : f_m_stage_198 l0 l1 M = some r) : EV d 78 198 [some (.ref l0), some (.int l1), none] [] M (none, r) := by
  unfold f_m_stage_198 at h
  refine EV_stq mx_78 (pc' := 199) (L' := [some (.ref l0), some (.int l1), none]) (st' := [.ref l0]) bo_78_198_016f8c rfl ?_
  refine r_gI mx_78 li_78_199 fd_14_215 ⟨by decide, by decide⟩ h (fun v1 h => ?_)
  refine h_ne h (fun h hc => ?_) (fun h hc => ?_)
  · refine r_ifF mx_78 li_78_202 (by decide) hc ?_
    refine EV_stq mx_78 (pc' := 208) (L' := [some (.ref l0), some (.int l1), none]) (st' := [.int (41 : Int32), .ref l0]) bo_78_205_6622b5 rfl ?_
    refine h_ck h (fun hc h => ?_)
    refine h_cV h (fun M2 e h => ?_)
    refine EV_call [.ref l0, .int (41 : Int32)] [] mx_78 li_78_208 rfl rfl si_14_226 rfl (by decide) (by decide) (by omega) ma_75 rfl (Nat.le_of_ble_eq_true rfl) rfl rfl (Nat.le_of_ble_eq_true rfl) (rc_1 mt_at_75 rfl rfl (by decide) hc) (e_m_sign (by omega) l0 (41 : Int32) M _ e) ?_
    show EV d 78 211 [some (.ref l0), some (.int l1), none] [] M2 _
    exact e_m_stage_211 hd l0 l1 M2 r h
  · refine r_ifT mx_78 li_78_202 (by decide) rfl hc ?_
    exact e_m_stage_211 hd l0 l1 M r h
theorem e_m_stage_172 {d : Nat} (hd : 2 ≤ d) (l0 : Nat) (l1 : Int32) (l2 : Int32) (M : Mem) (r : Mem) (h : f_m_stage_172 l0 l1 l2 M = some r) : EV d 78 172 [some (.ref l0), some (.int l1), some (.int l2)] [] M (none, r) := by
  unfold f_m_stage_172 at h
  refine EV_stq mx_78 (pc' := 173) (L' := [some (.ref l0), some (.int l1), some (.int l2)]) (st' := [.ref l0]) bo_78_172_2c0fbb rfl ?_
  refine r_gI mx_78 li_78_173 fd_14_215 ⟨by decide, by decide⟩ h (fun v1 h => ?_)
  refine h_ne h (fun h hc => ?_) (fun h hc => ?_)
  · refine r_ifF mx_78 li_78_176 (by decide) hc ?_
    refine EV_stq mx_78 (pc' := 181) (L' := [some (.ref l0), some (.int l1), some (.int l2)]) (st' := [.int (3 : Int32), .int l2]) bo_78_179_d797f2 rfl ?_
    refine h_ge h (fun h hc => ?_) (fun h hc => ?_)
    · refine r_icT mx_78 li_78_181 (by decide) rfl hc ?_
      refine EV_forget (A := [some (.ref l0), some (.int l1), none]) (lsub_of _ _ ⟨Or.inr rfl, ⟨Or.inr rfl, ⟨Or.inl rfl, trivial⟩⟩⟩) ?_
      exact e_m_stage_198 hd l0 l1 M r h
    · refine r_icF mx_78 li_78_181 (by decide) hc ?_
      refine EV_stq mx_78 (pc' := 185) (L' := [some (.ref l0), some (.int l1), some (.int l2)]) (st' := [.ref l0]) bo_78_184_35f04e rfl ?_
      refine r_gA mx_78 li_78_185 fd_14_157 rfl h (fun a2 h => ?_)
      refine EV_stq mx_78 (pc' := 194) (L' := [some (.ref l0), some (.int l1), some (.int l2)]) (st' := [.int (99 : Int32), .int (-99 : Int32), .ref l0, .int l1, .ref a2]) bo_78_188_07a9a1 rfl ?_
      refine h_ck h (fun hc h => ?_)
      refine h_cI h (fun v4 M3 e h => ?_)
      refine EV_call [.ref l0, .int (-99 : Int32), .int (99 : Int32)] [.int l1, .ref a2] mx_78 li_78_194 rfl rfl si_14_230 rfl (by decide) (by decide) (by omega) ma_76 rfl (Nat.le_of_ble_eq_true rfl) rfl rfl (Nat.le_of_ble_eq_true rfl) (rc_1 mt_at_76 rfl rfl (by decide) hc) (e_m_number (by omega) l0 (-99 : Int32) (99 : Int32) M _ e) ?_
      show EV d 78 197 [some (.ref l0), some (.int l1), some (.int l2)] [.int v4, .int l1, .ref a2] M3 _
      refine r_sI mx_78 li_78_197 h (fun M5 h => ?_)
      refine EV_forget (A := [some (.ref l0), some (.int l1), none]) (lsub_of _ _ ⟨Or.inr rfl, ⟨Or.inr rfl, ⟨Or.inl rfl, trivial⟩⟩⟩) ?_
      exact e_m_stage_198 hd l0 l1 M5 r h
  · refine r_ifT mx_78 li_78_176 (by decide) rfl hc ?_
    refine EV_forget (A := [some (.ref l0), some (.int l1), none]) (lsub_of _ _ ⟨Or.inr rfl, ⟨Or.inr rfl, ⟨Or.inl rfl, trivial⟩⟩⟩) ?_
    exact e_m_stage_198 hd l0 l1 M r h
theorem e_m_stage_154 {d : Nat} (hd : 2 ≤ d) (l0 : Nat) (l1 : Int32) (l2 : Int32) (M : Mem) (r : Mem) (h : f_m_stage_154 l0 l1 l2 M = some r) : EV d 78 154 [some (.ref l0), some (.int l1), some (.int l2)] [] M (none, r) := by
  unfold f_m_stage_154 at h
  refine EV_stq mx_78 (pc' := 155) (L' := [some (.ref l0), some (.int l1), some (.int l2)]) (st' := [.ref l0]) bo_78_154_d0883f rfl ?_
  refine r_gI mx_78 li_78_155 fd_14_215 ⟨by decide, by decide⟩ h (fun v1 h => ?_)
  refine h_ne h (fun h hc => ?_) (fun h hc => ?_)
  · refine r_ifF mx_78 li_78_158 (by decide) hc ?_
    refine EV_stq mx_78 (pc' := 163) (L' := [some (.ref l0), some (.int l1), some (.int l2)]) (st' := [.int (3 : Int32), .int l2]) bo_78_161_f80529 rfl ?_
    refine h_ge h (fun h hc => ?_) (fun h hc => ?_)
    · refine r_icT mx_78 li_78_163 (by decide) rfl hc ?_
      exact e_m_stage_172 hd l0 l1 l2 M r h
    · refine r_icF mx_78 li_78_163 (by decide) hc ?_
      refine EV_stq mx_78 (pc' := 169) (L' := [some (.ref l0), some (.int l1), some (.int l2)]) (st' := [.int (44 : Int32), .ref l0]) bo_78_166_2be6e4 rfl ?_
      refine h_ck h (fun hc h => ?_)
      refine h_cV h (fun M2 e h => ?_)
      refine EV_call [.ref l0, .int (44 : Int32)] [] mx_78 li_78_169 rfl rfl si_14_226 rfl (by decide) (by decide) (by omega) ma_75 rfl (Nat.le_of_ble_eq_true rfl) rfl rfl (Nat.le_of_ble_eq_true rfl) (rc_1 mt_at_75 rfl rfl (by decide) hc) (e_m_sign (by omega) l0 (44 : Int32) M _ e) ?_
      show EV d 78 172 [some (.ref l0), some (.int l1), some (.int l2)] [] M2 _
      exact e_m_stage_172 hd l0 l1 l2 M2 r h
  · refine r_ifT mx_78 li_78_158 (by decide) rfl hc ?_
    exact e_m_stage_172 hd l0 l1 l2 M r h
theorem e_m_stage_150 {d : Nat} (hd : 2 ≤ d) (l0 : Nat) (l1 : Int32) (l2 : Int32) (s0 : Int32) (s1 : Int32) (s2 : Nat) (s3 : Int32) (s4 : Nat) (M : Mem) (r : Mem) (h : f_m_stage_150 l0 l1 l2 s0 s1 s2 s3 s4 M = some r) : EV d 78 150 [some (.ref l0), some (.int l1), some (.int l2)] [.int s0, .int s1, .ref s2, .int s3, .ref s4] M (none, r) := by
  unfold f_m_stage_150 at h
  refine h_ck h (fun hc h => ?_)
  refine h_cI h (fun v2 M1 e h => ?_)
  refine EV_call [.ref s2, .int s1, .int s0] [.int s3, .ref s4] mx_78 li_78_150 rfl rfl si_14_230 rfl (by decide) (by decide) (by omega) ma_76 rfl (Nat.le_of_ble_eq_true rfl) rfl rfl (Nat.le_of_ble_eq_true rfl) (rc_1 mt_at_76 rfl rfl (by decide) hc) (e_m_number (by omega) s2 s1 s0 M _ e) ?_
  show EV d 78 153 [some (.ref l0), some (.int l1), some (.int l2)] [.int v2, .int s3, .ref s4] M1 _
  refine r_sI mx_78 li_78_153 h (fun M3 h => ?_)
  exact e_m_stage_154 hd l0 l1 l2 M3 r h
theorem e_m_stage_121 {d : Nat} (hd : 2 ≤ d) (l0 : Nat) (l1 : Int32) (l2 : Int32) (s0 : Int32) (s1 : Nat) (s2 : Int32) (s3 : Nat) (M : Mem) (r : Mem) (h : f_m_stage_121 l0 l1 l2 s0 s1 s2 s3 M = some r) : EV d 78 121 [some (.ref l0), some (.int l1), some (.int l2)] [.int s0, .ref s1, .int s2, .ref s3] M (none, r) := by
  unfold f_m_stage_121 at h
  refine EV_stq mx_78 (pc' := 123) (L' := [some (.ref l0), some (.int l1), some (.int l2)]) (st' := [.int (1 : Int32), .int l2, .int s0, .ref s1, .int s2, .ref s3]) bo_78_121_74ff17 rfl ?_
  refine h_ne h (fun h hc => ?_) (fun h hc => ?_)
  · refine r_icF mx_78 li_78_123 (by decide) hc ?_
    refine EV_stq mx_78 (pc' := 150) (L' := [some (.ref l0), some (.int l1), some (.int l2)]) (st' := [.int (2 : Int32), .int s0, .ref s1, .int s2, .ref s3]) bo_78_126_66327d rfl ?_
    exact e_m_stage_150 hd l0 l1 l2 (2 : Int32) s0 s1 s2 s3 M r h
  · refine r_icT mx_78 li_78_123 (by decide) rfl hc ?_
    refine EV_stq mx_78 (pc' := 132) (L' := [some (.ref l0), some (.int l1), some (.int l2)]) (st' := [.int (3 : Int32), .int l2, .int s0, .ref s1, .int s2, .ref s3]) bo_78_130_7ab0fb rfl ?_
    refine h_ne h (fun h hc => ?_) (fun h hc => ?_)
    · refine r_icF mx_78 li_78_132 (by decide) hc ?_
      refine EV_stq mx_78 (pc' := 150) (L' := [some (.ref l0), some (.int l1), some (.int l2)]) (st' := [.int (3 : Int32), .int s0, .ref s1, .int s2, .ref s3]) bo_78_135_86a7c1 rfl ?_
      exact e_m_stage_150 hd l0 l1 l2 (3 : Int32) s0 s1 s2 s3 M r h
    · refine r_icT mx_78 li_78_132 (by decide) rfl hc ?_
      refine EV_stq mx_78 (pc' := 141) (L' := [some (.ref l0), some (.int l1), some (.int l2)]) (st' := [.int (4 : Int32), .int l2, .int s0, .ref s1, .int s2, .ref s3]) bo_78_139_1ad88e rfl ?_
      refine h_ne h (fun h hc => ?_) (fun h hc => ?_)
      · refine r_icF mx_78 li_78_141 (by decide) hc ?_
        refine EV_stq mx_78 (pc' := 150) (L' := [some (.ref l0), some (.int l1), some (.int l2)]) (st' := [.int (5 : Int32), .int s0, .ref s1, .int s2, .ref s3]) bo_78_144_322ea6 rfl ?_
        exact e_m_stage_150 hd l0 l1 l2 (5 : Int32) s0 s1 s2 s3 M r h
      · refine r_icT mx_78 li_78_141 (by decide) rfl hc ?_
        refine EV_stq mx_78 (pc' := 150) (L' := [some (.ref l0), some (.int l1), some (.int l2)]) (st' := [.int (99 : Int32), .int s0, .ref s1, .int s2, .ref s3]) bo_78_148_dcfe63 rfl ?_
        exact e_m_stage_150 hd l0 l1 l2 (99 : Int32) s0 s1 s2 s3 M r h
theorem e_m_stage_106 {d : Nat} (hd : 2 ≤ d) (l0 : Nat) (l1 : Int32) (l2 : Int32) (s0 : Nat) (s1 : Int32) (s2 : Nat) (M : Mem) (r : Mem) (h : f_m_stage_106 l0 l1 l2 s0 s1 s2 M = some r) : EV d 78 106 [some (.ref l0), some (.int l1), some (.int l2)] [.ref s0, .int s1, .ref s2] M (none, r) := by
  unfold f_m_stage_106 at h
  refine EV_stq mx_78 (pc' := 121) (L' := [some (.ref l0), some (.int l1), some (.int l2)]) (st' := [.int (0 : Int32), .ref s0, .int s1, .ref s2]) bo_78_106_9c4b38 rfl ?_
  exact e_m_stage_121 hd l0 l1 l2 (0 : Int32) s0 s1 s2 M r h
theorem e_m_stage_22 {d : Nat} (hd : 2 ≤ d) (l0 : Nat) (l1 : Int32) (l2 : Int32) (s0 : Int32) (s1 : Int32) (s2 : Nat) (M : Mem) (r : Mem) (h : f_m_stage_22 l0 l1 l2 s0 s1 s2 M = some r) : EV d 78 22 [some (.ref l0), some (.int l1), some (.int l2)] [.int s0, .int s1, .ref s2] M (none, r) := by
  unfold f_m_stage_22 at h
  refine EV_stq mx_78 (pc' := 23) (L' := [some (.ref l0), some (.int l1), some (.int l2)]) (st' := [.int (s1 ||| s0), .ref s2]) bo_78_22_60ac31 rfl ?_
  refine r_pZ mx_78 li_78_23 fd_14_215 (Or.inl rfl) rfl h (fun M1 h => ?_)
  refine EV_stq mx_78 (pc' := 27) (L' := [some (.ref l0), some (.int l1), some (.int l2)]) (st' := [.ref l0]) bo_78_26_bd3b31 rfl ?_
  refine r_gI mx_78 li_78_27 fd_14_215 ⟨by decide, by decide⟩ h (fun v2 h => ?_)
  refine h_eq h (fun h hc => ?_) (fun h hc => ?_)
  · refine r_ifT mx_78 li_78_30 (by decide) rfl hc ?_
    refine EV_stq mx_78 (pc' := 36) (L' := [some (.ref l0), some (.int l1), some (.int l2)]) (st' := [.ref l0, .ref l0]) bo_78_34_812988 rfl ?_
    refine r_gI mx_78 li_78_36 fd_14_212 ⟨by decide, by decide⟩ h (fun v3 h => ?_)
    refine EV_stq mx_78 (pc' := 41) (L' := [some (.ref l0), some (.int l1), some (.int l2)]) (st' := [.int (v3 + (1 : Int32)), .ref l0]) bo_78_39_9c41c6 rfl ?_
    refine r_pI mx_78 li_78_41 fd_14_212 (Or.inl rfl) rfl h (fun M4 h => ?_)
    refine EV_stq mx_78 (pc' := 45) (L' := [some (.ref l0), some (.int l1), some (.int l2)]) (st' := [.ref l0]) bo_78_44_56c0aa rfl ?_
    refine r_gA mx_78 li_78_45 fd_14_151 rfl h (fun a5 h => ?_)
    refine EV_stq mx_78 (pc' := 50) (L' := [some (.ref l0), some (.int l1), some (.int l2)]) (st' := [.int l2, .int l1, .ref a5]) bo_78_48_3a676f rfl ?_
    refine r_sI mx_78 li_78_50 h (fun M6 h => ?_)
    refine EV_stq mx_78 (pc' := 52) (L' := [some (.ref l0), some (.int l1), some (.int l2)]) (st' := [.ref l0]) bo_78_51_93c172 rfl ?_
    refine r_gA mx_78 li_78_52 fd_14_154 rfl h (fun a7 h => ?_)
    refine EV_stq mx_78 (pc' := 57) (L' := [some (.ref l0), some (.int l1), some (.int l2)]) (st' := [.int (0 : Int32), .int l1, .ref a7]) bo_78_55_539840 rfl ?_
    refine r_sI mx_78 li_78_57 h (fun M8 h => ?_)
    refine EV_stq mx_78 (pc' := 59) (L' := [some (.ref l0), some (.int l1), some (.int l2)]) (st' := [.ref l0]) bo_78_58_df393a rfl ?_
    refine r_gA mx_78 li_78_59 fd_14_157 rfl h (fun a9 h => ?_)
    refine EV_stq mx_78 (pc' := 64) (L' := [some (.ref l0), some (.int l1), some (.int l2)]) (st' := [.int (0 : Int32), .int l1, .ref a9]) bo_78_62_322124 rfl ?_
    refine r_sI mx_78 li_78_64 h (fun M10 h => ?_)
    refine EV_stq mx_78 (pc' := 66) (L' := [some (.ref l0), some (.int l1), some (.int l2)]) (st' := [.ref l0]) bo_78_65_a2326b rfl ?_
    refine r_gA mx_78 li_78_66 fd_14_160 rfl h (fun a11 h => ?_)
    refine EV_stq mx_78 (pc' := 71) (L' := [some (.ref l0), some (.int l1), some (.int l2)]) (st' := [.int (1 : Int32), .int l1, .ref a11]) bo_78_69_1aaecf rfl ?_
    refine r_sI mx_78 li_78_71 h (fun M12 h => ?_)
    refine EV_stq mx_78 (pc' := 74) (L' := [some (.ref l0), some (.int l1), some (.int l2)]) (st' := [.int (5 : Int32), .int l2]) bo_78_72_215158 rfl ?_
    refine h_ge h (fun h hc => ?_) (fun h hc => ?_)
    · refine r_icT mx_78 li_78_74 (by decide) rfl hc ?_
      refine EV_forget (A := [some (.ref l0), some (.int l1), none]) (lsub_of _ _ ⟨Or.inr rfl, ⟨Or.inr rfl, ⟨Or.inl rfl, trivial⟩⟩⟩) ?_
      exact e_m_stage_211 hd l0 l1 M12 r h
    · refine r_icF mx_78 li_78_74 (by decide) hc ?_
      refine EV_stq mx_78 (pc' := 80) (L' := [some (.ref l0), some (.int l1), some (.int l2)]) (st' := [.int (40 : Int32), .ref l0]) bo_78_77_3949c1 rfl ?_
      refine h_ck h (fun hc h => ?_)
      refine h_cV h (fun M13 e h => ?_)
      refine EV_call [.ref l0, .int (40 : Int32)] [] mx_78 li_78_80 rfl rfl si_14_226 rfl (by decide) (by decide) (by omega) ma_75 rfl (Nat.le_of_ble_eq_true rfl) rfl rfl (Nat.le_of_ble_eq_true rfl) (rc_1 mt_at_75 rfl rfl (by decide) hc) (e_m_sign (by omega) l0 (40 : Int32) M12 _ e) ?_
      show EV d 78 83 [some (.ref l0), some (.int l1), some (.int l2)] [] M13 _
      refine EV_stq mx_78 (pc' := 84) (L' := [some (.ref l0), some (.int l1), some (.int l2)]) (st' := [.ref l0]) bo_78_83_dbc641 rfl ?_
      refine r_gI mx_78 li_78_84 fd_14_215 ⟨by decide, by decide⟩ h (fun v14 h => ?_)
      refine h_ne h (fun h hc => ?_) (fun h hc => ?_)
      · refine r_ifF mx_78 li_78_87 (by decide) hc ?_
        refine EV_stq mx_78 (pc' := 91) (L' := [some (.ref l0), some (.int l1), some (.int l2)]) (st' := [.ref l0]) bo_78_90_d3b5bf rfl ?_
        refine r_gA mx_78 li_78_91 fd_14_154 rfl h (fun a15 h => ?_)
        refine EV_stq mx_78 (pc' := 98) (L' := [some (.ref l0), some (.int l1), some (.int l2)]) (st' := [.int (1 : Int32), .int l2, .ref l0, .int l1, .ref a15]) bo_78_94_b9dca5 rfl ?_
        refine h_eq h (fun h hc => ?_) (fun h hc => ?_)
        · refine r_icT mx_78 li_78_98 (by decide) rfl hc ?_
          exact e_m_stage_106 hd l0 l1 l2 l0 l1 a15 M13 r h
        · refine r_icF mx_78 li_78_98 (by decide) hc ?_
          refine EV_stq mx_78 (pc' := 103) (L' := [some (.ref l0), some (.int l1), some (.int l2)]) (st' := [.int (3 : Int32), .int l2, .ref l0, .int l1, .ref a15]) bo_78_101_c81b70 rfl ?_
          refine h_ne h (fun h hc => ?_) (fun h hc => ?_)
          · refine r_icF mx_78 li_78_103 (by decide) hc ?_
            exact e_m_stage_106 hd l0 l1 l2 l0 l1 a15 M13 r h
          · refine r_icT mx_78 li_78_103 (by decide) rfl hc ?_
            refine EV_stq mx_78 (pc' := 112) (L' := [some (.ref l0), some (.int l1), some (.int l2)]) (st' := [.int (4 : Int32), .int l2, .ref l0, .int l1, .ref a15]) bo_78_110_62a8bd rfl ?_
            refine h_ne h (fun h hc => ?_) (fun h hc => ?_)
            · refine r_icF mx_78 li_78_112 (by decide) hc ?_
              refine EV_stq mx_78 (pc' := 121) (L' := [some (.ref l0), some (.int l1), some (.int l2)]) (st' := [.int (1 : Int32), .ref l0, .int l1, .ref a15]) bo_78_115_b332e5 rfl ?_
              exact e_m_stage_121 hd l0 l1 l2 (1 : Int32) l0 l1 a15 M13 r h
            · refine r_icT mx_78 li_78_112 (by decide) rfl hc ?_
              refine EV_stq mx_78 (pc' := 121) (L' := [some (.ref l0), some (.int l1), some (.int l2)]) (st' := [.int (-99 : Int32), .ref l0, .int l1, .ref a15]) bo_78_119_726151 rfl ?_
              exact e_m_stage_121 hd l0 l1 l2 (-99 : Int32) l0 l1 a15 M13 r h
      · refine r_ifT mx_78 li_78_87 (by decide) rfl hc ?_
        exact e_m_stage_154 hd l0 l1 l2 M13 r h
  · refine r_ifF mx_78 li_78_30 (by decide) hc ?_
    obtain rfl := Option.some.inj h
    exact r_ret mx_78 li_78_33 rfl rfl
theorem e_m_stage {d : Nat} (hd : 2 ≤ d) (p0 : Nat) (p1 : Int32) (M : Mem) (r : Mem) (h : f_m_stage p0 p1 M = some r) : EV d 78 0 (entL 3 [.ref p0, .int p1]) [] M (none, r) := by
  show EV d 78 0 [some (.ref p0), some (.int p1), none] [] M _
  unfold f_m_stage at h
  refine EV_stq mx_78 (pc' := 1) (L' := [some (.ref p0), some (.int p1), none]) (st' := [.ref p0]) bo_78_0_8d5162 rfl ?_
  refine h_ck h (fun hc h => ?_)
  refine h_cI h (fun v2 M1 e h => ?_)
  refine EV_call [.ref p0] [] mx_78 li_78_1 rfl rfl si_14_219 rfl (by decide) (by decide) (by omega) ma_73 rfl (Nat.le_of_ble_eq_true rfl) rfl rfl (Nat.le_of_ble_eq_true rfl) (rc_1 mt_at_73 rfl rfl (by decide) hc) (e_m_here (by omega) p0 M _ e) ?_
  show EV d 78 4 [some (.ref p0), some (.int p1), none] [.int v2] M1 _
  refine h_cI h (fun v4 M3 e h => ?_)
  refine EV_call [.int v2] [] mx_78 li_78_4 rfl rfl si_14_222 rfl (by decide) (by decide) (by omega) ma_74 rfl (Nat.le_of_ble_eq_true rfl) rfl rfl (Nat.le_of_ble_eq_true rfl) rfl (e_m_letter (by omega) v2 M1 _ e) ?_
  show EV d 78 7 [some (.ref p0), some (.int p1), none] [.int v4] M3 _
  refine EV_stq mx_78 (pc' := 10) (L' := [some (.ref p0), some (.int p1), some (.int v4)]) (st' := [.ref p0, .ref p0]) bo_78_7_6bece7 rfl ?_
  refine r_gI mx_78 li_78_10 fd_14_215 ⟨by decide, by decide⟩ h (fun v5 h => ?_)
  refine EV_stq mx_78 (pc' := 14) (L' := [some (.ref p0), some (.int p1), some (.int v4)]) (st' := [.int v4, .int v5, .ref p0]) bo_78_13_15f019 rfl ?_
  refine h_ge h (fun h hc => ?_) (fun h hc => ?_)
  · refine r_ifT mx_78 li_78_14 (by decide) rfl hc ?_
    refine EV_stq mx_78 (pc' := 22) (L' := [some (.ref p0), some (.int p1), some (.int v4)]) (st' := [.int (0 : Int32), .int v5, .ref p0]) bo_78_21_46c79c rfl ?_
    exact e_m_stage_22 hd p0 p1 v4 (0 : Int32) v5 p0 M3 r h
  · refine r_ifF mx_78 li_78_14 (by decide) hc ?_
    refine EV_stq mx_78 (pc' := 22) (L' := [some (.ref p0), some (.int p1), some (.int v4)]) (st' := [.int (1 : Int32), .int v5, .ref p0]) bo_78_17_03196b rfl ?_
    exact e_m_stage_22 hd p0 p1 v4 (1 : Int32) v5 p0 M3 r h
theorem e_m_breaks_103 {d : Nat} (hd : 0 ≤ d) : ∀ (n : Nat) (l0 : Nat) (l1 : Int32) (M : Mem) (r : Mem), f_m_breaks_103 n l0 l1 M = some r → EV d 79 103 [some (.ref l0), some (.int l1)] [] M (none, r) := by
  intro n
  induction n with
  | zero => intro l0 l1 M r h; cases h
  | succ n ih =>
    intro l0 l1 M r h
    unfold f_m_breaks_103 at h
    refine EV_stq mx_79 (pc' := 106) (L' := [some (.ref l0), some (.int l1)]) (st' := [.int (96 : Int32), .int l1]) bo_79_103_b58a7c rfl ?_
    refine h_ge h (fun h hc => ?_) (fun h hc => ?_)
    · refine r_icT mx_79 li_79_106 (by decide) rfl hc ?_
      refine EV_stq mx_79 (pc' := 153) (L' := [some (.ref l0), some (.int l1)]) (st' := [.ref l0, .ref l0]) bo_79_151_ea8669 rfl ?_
      refine r_gI mx_79 li_79_153 fd_14_262 ⟨by decide, by decide⟩ h (fun v1 h => ?_)
      refine r_pI mx_79 li_79_156 fd_14_271 (Or.inl rfl) rfl h (fun M2 h => ?_)
      obtain rfl := Option.some.inj h
      exact r_ret mx_79 li_79_159 rfl rfl
    · refine r_icF mx_79 li_79_106 (by decide) hc ?_
      refine EV_stq mx_79 (pc' := 110) (L' := [some (.ref l0), some (.int l1)]) (st' := [.ref l0]) bo_79_109_9ce450 rfl ?_
      refine r_gA mx_79 li_79_110 fd_14_56 rfl h (fun a3 h => ?_)
      refine EV_stq mx_79 (pc' := 115) (L' := [some (.ref l0), some (.int l1)]) (st' := [.ref l0, .int l1, .ref a3]) bo_79_113_1e94b2 rfl ?_
      refine r_gA mx_79 li_79_115 fd_14_63 rfl h (fun a4 h => ?_)
      refine EV_stq mx_79 (pc' := 119) (L' := [some (.ref l0), some (.int l1)]) (st' := [.int l1, .ref a4, .int l1, .ref a3]) bo_79_118_c412ec rfl ?_
      refine r_aB mx_79 li_79_119 h (fun v5 h => ?_)
      refine r_sB mx_79 li_79_120 h (fun M6 h => ?_)
      refine EV_stq mx_79 (pc' := 122) (L' := [some (.ref l0), some (.int l1)]) (st' := [.ref l0]) bo_79_121_641af5 rfl ?_
      refine r_gA mx_79 li_79_122 fd_14_66 rfl h (fun a7 h => ?_)
      refine EV_stq mx_79 (pc' := 127) (L' := [some (.ref l0), some (.int l1)]) (st' := [.ref l0, .int l1, .ref a7]) bo_79_125_e95541 rfl ?_
      refine r_gA mx_79 li_79_127 fd_14_72 rfl h (fun a8 h => ?_)
      refine EV_stq mx_79 (pc' := 131) (L' := [some (.ref l0), some (.int l1)]) (st' := [.int l1, .ref a8, .int l1, .ref a7]) bo_79_130_8e4770 rfl ?_
      refine r_aI mx_79 li_79_131 h (fun v9 h => ?_)
      refine r_sI mx_79 li_79_132 h (fun M10 h => ?_)
      refine EV_stq mx_79 (pc' := 134) (L' := [some (.ref l0), some (.int l1)]) (st' := [.ref l0]) bo_79_133_fe448f rfl ?_
      refine r_gA mx_79 li_79_134 fd_14_75 rfl h (fun a11 h => ?_)
      refine EV_stq mx_79 (pc' := 139) (L' := [some (.ref l0), some (.int l1)]) (st' := [.ref l0, .int l1, .ref a11]) bo_79_137_4ee428 rfl ?_
      refine r_gA mx_79 li_79_139 fd_14_81 rfl h (fun a12 h => ?_)
      refine EV_stq mx_79 (pc' := 143) (L' := [some (.ref l0), some (.int l1)]) (st' := [.int l1, .ref a12, .int l1, .ref a11]) bo_79_142_5324d1 rfl ?_
      refine r_aI mx_79 li_79_143 h (fun v13 h => ?_)
      refine r_sI mx_79 li_79_144 h (fun M14 h => ?_)
      refine EV_stq mx_79 (pc' := 103) (L' := [some (.ref l0), some (.int (l1 + (1 : Int32)))]) (st' := []) bo_79_145_8362d6 rfl ?_
      exact ih l0 (l1 + (1 : Int32)) M14 r h
theorem e_m_breaks_61 {d : Nat} (hd : 0 ≤ d) : ∀ (n : Nat) (l0 : Nat) (l1 : Int32) (M : Mem) (r : Mem), f_m_breaks_61 n l0 l1 M = some r → EV d 79 61 [some (.ref l0), some (.int l1)] [] M (none, r) := by
  intro n
  induction n with
  | zero => intro l0 l1 M r h; cases h
  | succ n ih =>
    intro l0 l1 M r h
    unfold f_m_breaks_61 at h
    refine EV_stq mx_79 (pc' := 64) (L' := [some (.ref l0), some (.int l1)]) (st' := [.int (54 : Int32), .int l1]) bo_79_61_cd5945 rfl ?_
    refine h_ge h (fun h hc => ?_) (fun h hc => ?_)
    · refine r_icT mx_79 li_79_64 (by decide) rfl hc ?_
      refine EV_stq mx_79 (pc' := 103) (L' := [some (.ref l0), some (.int (0 : Int32))]) (st' := []) bo_79_101_c81b70 rfl ?_
      exact e_m_breaks_103 hd FU l0 (0 : Int32) M r h
    · refine r_icF mx_79 li_79_64 (by decide) hc ?_
      refine EV_stq mx_79 (pc' := 68) (L' := [some (.ref l0), some (.int l1)]) (st' := [.ref l0]) bo_79_67_ded3a4 rfl ?_
      refine r_gA mx_79 li_79_68 fd_14_114 rfl h (fun a1 h => ?_)
      refine EV_stq mx_79 (pc' := 73) (L' := [some (.ref l0), some (.int l1)]) (st' := [.int (0 : Int32), .int l1, .ref a1]) bo_79_71_0bf829 rfl ?_
      refine r_sI mx_79 li_79_73 h (fun M2 h => ?_)
      refine EV_stq mx_79 (pc' := 75) (L' := [some (.ref l0), some (.int l1)]) (st' := [.ref l0]) bo_79_74_ac6591 rfl ?_
      refine r_gA mx_79 li_79_75 fd_14_117 rfl h (fun a3 h => ?_)
      refine EV_stq mx_79 (pc' := 80) (L' := [some (.ref l0), some (.int l1)]) (st' := [.int (0 : Int32), .int l1, .ref a3]) bo_79_78_32a02f rfl ?_
      refine r_sI mx_79 li_79_80 h (fun M4 h => ?_)
      refine EV_stq mx_79 (pc' := 82) (L' := [some (.ref l0), some (.int l1)]) (st' := [.ref l0]) bo_79_81_6cfd26 rfl ?_
      refine r_gA mx_79 li_79_82 fd_14_129 rfl h (fun a5 h => ?_)
      refine EV_stq mx_79 (pc' := 87) (L' := [some (.ref l0), some (.int l1)]) (st' := [.int (0 : Int32), .int l1, .ref a5]) bo_79_85_7a6887 rfl ?_
      refine r_sI mx_79 li_79_87 h (fun M6 h => ?_)
      refine EV_stq mx_79 (pc' := 89) (L' := [some (.ref l0), some (.int l1)]) (st' := [.ref l0]) bo_79_88_92252f rfl ?_
      refine r_gA mx_79 li_79_89 fd_14_132 rfl h (fun a7 h => ?_)
      refine EV_stq mx_79 (pc' := 94) (L' := [some (.ref l0), some (.int l1)]) (st' := [.int (0 : Int32), .int l1, .ref a7]) bo_79_92_f850a5 rfl ?_
      refine r_sI mx_79 li_79_94 h (fun M8 h => ?_)
      refine EV_stq mx_79 (pc' := 61) (L' := [some (.ref l0), some (.int (l1 + (1 : Int32)))]) (st' := []) bo_79_95_2aa25d rfl ?_
      exact ih l0 (l1 + (1 : Int32)) M8 r h
theorem e_m_breaks_7 {d : Nat} (hd : 0 ≤ d) : ∀ (n : Nat) (l0 : Nat) (l1 : Int32) (M : Mem) (r : Mem), f_m_breaks_7 n l0 l1 M = some r → EV d 79 7 [some (.ref l0), some (.int l1)] [] M (none, r) := by
  intro n
  induction n with
  | zero => intro l0 l1 M r h; cases h
  | succ n ih =>
    intro l0 l1 M r h
    unfold f_m_breaks_7 at h
    refine EV_stq mx_79 (pc' := 10) (L' := [some (.ref l0), some (.int l1)]) (st' := [.int (18 : Int32), .int l1]) bo_79_7_7eef78 rfl ?_
    refine h_ge h (fun h hc => ?_) (fun h hc => ?_)
    · refine r_icT mx_79 li_79_10 (by decide) rfl hc ?_
      refine EV_stq mx_79 (pc' := 61) (L' := [some (.ref l0), some (.int (0 : Int32))]) (st' := []) bo_79_59_d0b94e rfl ?_
      exact e_m_breaks_61 hd FU l0 (0 : Int32) M r h
    · refine r_icF mx_79 li_79_10 (by decide) hc ?_
      refine EV_stq mx_79 (pc' := 14) (L' := [some (.ref l0), some (.int l1)]) (st' := [.ref l0]) bo_79_13_15f019 rfl ?_
      refine r_gA mx_79 li_79_14 fd_14_93 rfl h (fun a1 h => ?_)
      refine EV_stq mx_79 (pc' := 19) (L' := [some (.ref l0), some (.int l1)]) (st' := [.int (0 : Int32), .int l1, .ref a1]) bo_79_17_03196b rfl ?_
      refine r_sI mx_79 li_79_19 h (fun M2 h => ?_)
      refine EV_stq mx_79 (pc' := 21) (L' := [some (.ref l0), some (.int l1)]) (st' := [.ref l0]) bo_79_20_baa9a0 rfl ?_
      refine r_gA mx_79 li_79_21 fd_14_105 rfl h (fun a3 h => ?_)
      refine EV_stq mx_79 (pc' := 26) (L' := [some (.ref l0), some (.int l1)]) (st' := [.int (0 : Int32), .int l1, .ref a3]) bo_79_24_35ae4e rfl ?_
      refine r_sI mx_79 li_79_26 h (fun M4 h => ?_)
      refine EV_stq mx_79 (pc' := 28) (L' := [some (.ref l0), some (.int l1)]) (st' := [.ref l0]) bo_79_27_58fada rfl ?_
      refine r_gA mx_79 li_79_28 fd_14_108 rfl h (fun a5 h => ?_)
      refine EV_stq mx_79 (pc' := 33) (L' := [some (.ref l0), some (.int l1)]) (st' := [.int (0 : Int32), .int l1, .ref a5]) bo_79_31_f6932f rfl ?_
      refine r_sI mx_79 li_79_33 h (fun M6 h => ?_)
      refine EV_stq mx_79 (pc' := 35) (L' := [some (.ref l0), some (.int l1)]) (st' := [.ref l0]) bo_79_34_130638 rfl ?_
      refine r_gA mx_79 li_79_35 fd_14_111 rfl h (fun a7 h => ?_)
      refine EV_stq mx_79 (pc' := 40) (L' := [some (.ref l0), some (.int l1)]) (st' := [.int (0 : Int32), .int l1, .ref a7]) bo_79_38_ef227d rfl ?_
      refine r_sB mx_79 li_79_40 h (fun M8 h => ?_)
      refine EV_stq mx_79 (pc' := 42) (L' := [some (.ref l0), some (.int l1)]) (st' := [.ref l0]) bo_79_41_45abaf rfl ?_
      refine r_gA mx_79 li_79_42 fd_14_84 rfl h (fun a9 h => ?_)
      refine EV_stq mx_79 (pc' := 47) (L' := [some (.ref l0), some (.int l1)]) (st' := [.ref l0, .int l1, .ref a9]) bo_79_45_b7d017 rfl ?_
      refine r_gA mx_79 li_79_47 fd_14_90 rfl h (fun a10 h => ?_)
      refine EV_stq mx_79 (pc' := 51) (L' := [some (.ref l0), some (.int l1)]) (st' := [.int l1, .ref a10, .int l1, .ref a9]) bo_79_50_8a8783 rfl ?_
      refine r_aI mx_79 li_79_51 h (fun v11 h => ?_)
      refine r_sI mx_79 li_79_52 h (fun M12 h => ?_)
      refine EV_stq mx_79 (pc' := 7) (L' := [some (.ref l0), some (.int (l1 + (1 : Int32)))]) (st' := []) bo_79_53_9caf1e rfl ?_
      exact ih l0 (l1 + (1 : Int32)) M12 r h
theorem e_m_breaks {d : Nat} (hd : 0 ≤ d) (p0 : Nat) (M : Mem) (r : Mem) (h : f_m_breaks p0 M = some r) : EV d 79 0 (entL 2 [.ref p0]) [] M (none, r) := by
  show EV d 79 0 [some (.ref p0), none] [] M _
  unfold f_m_breaks at h
  refine EV_stq mx_79 (pc' := 2) (L' := [some (.ref p0), none]) (st' := [.int (0 : Int32), .ref p0]) bo_79_0_264884 rfl ?_
  refine r_pI mx_79 li_79_2 fd_14_268 (Or.inl rfl) rfl h (fun M1 h => ?_)
  refine EV_stq mx_79 (pc' := 7) (L' := [some (.ref p0), some (.int (0 : Int32))]) (st' := []) bo_79_5_ca77c4 rfl ?_
  exact e_m_breaks_7 hd FU p0 (0 : Int32) M1 r h
theorem e_m_begins_114 {d : Nat} (hd : 1 ≤ d) : ∀ (n : Nat) (l0 : Nat) (l1 : Int32) (M : Mem) (r : Mem), f_m_begins_114 n l0 l1 M = some r → EV d 80 114 [some (.ref l0), some (.int l1)] [] M (none, r) := by
  intro n
  induction n with
  | zero => intro l0 l1 M r h; cases h
  | succ n ih =>
    intro l0 l1 M r h
    unfold f_m_begins_114 at h
    refine EV_stq mx_80 (pc' := 117) (L' := [some (.ref l0), some (.int l1)]) (st' := [.int (6 : Int32), .int l1]) bo_80_114_f55a89 rfl ?_
    refine h_ge h (fun h hc => ?_) (fun h hc => ?_)
    · refine r_icT mx_80 li_80_117 (by decide) rfl hc ?_
      refine EV_stq mx_80 (pc' := 155) (L' := [some (.ref l0), some (.int l1)]) (st' := [.ref l0]) bo_80_154_d0883f rfl ?_
      refine h_ck h (fun hc h => ?_)
      refine h_cV h (fun M1 e h => ?_)
      refine EV_call [.ref l0] [] mx_80 li_80_155 rfl rfl si_14_265 rfl (by decide) (by decide) (by omega) ma_79 rfl (Nat.le_of_ble_eq_true rfl) rfl rfl (Nat.le_of_ble_eq_true rfl) (rc_1 mt_at_79 rfl rfl (by decide) hc) (e_m_breaks (by omega) l0 M _ e) ?_
      show EV d 80 158 [some (.ref l0), some (.int l1)] [] M1 _
      obtain rfl := Option.some.inj h
      exact r_ret mx_80 li_80_158 rfl rfl
    · refine r_icF mx_80 li_80_117 (by decide) hc ?_
      refine EV_stq mx_80 (pc' := 121) (L' := [some (.ref l0), some (.int l1)]) (st' := [.ref l0]) bo_80_120_9b2503 rfl ?_
      refine r_gA mx_80 li_80_121 fd_14_44 rfl h (fun a2 h => ?_)
      refine EV_stq mx_80 (pc' := 126) (L' := [some (.ref l0), some (.int l1)]) (st' := [.int (0 : Int32), .int l1, .ref a2]) bo_80_124_a52981 rfl ?_
      refine r_sI mx_80 li_80_126 h (fun M3 h => ?_)
      refine EV_stq mx_80 (pc' := 128) (L' := [some (.ref l0), some (.int l1)]) (st' := [.ref l0]) bo_80_127_244a0d rfl ?_
      refine r_gA mx_80 li_80_128 fd_14_47 rfl h (fun a4 h => ?_)
      refine EV_stq mx_80 (pc' := 133) (L' := [some (.ref l0), some (.int l1)]) (st' := [.int (0 : Int32), .int l1, .ref a4]) bo_80_131_020aa4 rfl ?_
      refine r_sI mx_80 li_80_133 h (fun M5 h => ?_)
      refine EV_stq mx_80 (pc' := 135) (L' := [some (.ref l0), some (.int l1)]) (st' := [.ref l0]) bo_80_134_525680 rfl ?_
      refine r_gA mx_80 li_80_135 fd_14_50 rfl h (fun a6 h => ?_)
      refine EV_stq mx_80 (pc' := 140) (L' := [some (.ref l0), some (.int l1)]) (st' := [.int (0 : Int32), .int l1, .ref a6]) bo_80_138_621b70 rfl ?_
      refine r_sI mx_80 li_80_140 h (fun M7 h => ?_)
      refine EV_stq mx_80 (pc' := 142) (L' := [some (.ref l0), some (.int l1)]) (st' := [.ref l0]) bo_80_141_b0c808 rfl ?_
      refine r_gA mx_80 li_80_142 fd_14_53 rfl h (fun a8 h => ?_)
      refine EV_stq mx_80 (pc' := 147) (L' := [some (.ref l0), some (.int l1)]) (st' := [.int (0 : Int32), .int l1, .ref a8]) bo_80_145_75c003 rfl ?_
      refine r_sI mx_80 li_80_147 h (fun M9 h => ?_)
      refine EV_stq mx_80 (pc' := 114) (L' := [some (.ref l0), some (.int (l1 + (1 : Int32)))]) (st' := []) bo_80_148_3f5e08 rfl ?_
      exact ih l0 (l1 + (1 : Int32)) M9 r h
theorem e_m_begins_93 {d : Nat} (hd : 1 ≤ d) : ∀ (n : Nat) (l0 : Nat) (l1 : Int32) (M : Mem) (r : Mem), f_m_begins_93 n l0 l1 M = some r → EV d 80 93 [some (.ref l0), some (.int l1)] [] M (none, r) := by
  intro n
  induction n with
  | zero => intro l0 l1 M r h; cases h
  | succ n ih =>
    intro l0 l1 M r h
    unfold f_m_begins_93 at h
    refine EV_stq mx_80 (pc' := 96) (L' := [some (.ref l0), some (.int l1)]) (st' := [.int (18 : Int32), .int l1]) bo_80_93_aa3b03 rfl ?_
    refine h_ge h (fun h hc => ?_) (fun h hc => ?_)
    · refine r_icT mx_80 li_80_96 (by decide) rfl hc ?_
      refine EV_stq mx_80 (pc' := 114) (L' := [some (.ref l0), some (.int (0 : Int32))]) (st' := []) bo_80_112_dbfc8f rfl ?_
      exact e_m_begins_114 hd FU l0 (0 : Int32) M r h
    · refine r_icF mx_80 li_80_96 (by decide) hc ?_
      refine EV_stq mx_80 (pc' := 100) (L' := [some (.ref l0), some (.int l1)]) (st' := [.ref l0]) bo_80_99_e6cd5c rfl ?_
      refine r_gA mx_80 li_80_100 fd_14_90 rfl h (fun a1 h => ?_)
      refine EV_stq mx_80 (pc' := 105) (L' := [some (.ref l0), some (.int l1)]) (st' := [.int (0 : Int32), .int l1, .ref a1]) bo_80_103_b58a7c rfl ?_
      refine r_sI mx_80 li_80_105 h (fun M2 h => ?_)
      refine EV_stq mx_80 (pc' := 93) (L' := [some (.ref l0), some (.int (l1 + (1 : Int32)))]) (st' := []) bo_80_106_5689c2 rfl ?_
      exact ih l0 (l1 + (1 : Int32)) M2 r h
theorem e_m_begins_58 {d : Nat} (hd : 1 ≤ d) : ∀ (n : Nat) (l0 : Nat) (l1 : Int32) (M : Mem) (r : Mem), f_m_begins_58 n l0 l1 M = some r → EV d 80 58 [some (.ref l0), some (.int l1)] [] M (none, r) := by
  intro n
  induction n with
  | zero => intro l0 l1 M r h; cases h
  | succ n ih =>
    intro l0 l1 M r h
    unfold f_m_begins_58 at h
    refine EV_stq mx_80 (pc' := 61) (L' := [some (.ref l0), some (.int l1)]) (st' := [.int (96 : Int32), .int l1]) bo_80_58_6e952f rfl ?_
    refine h_ge h (fun h hc => ?_) (fun h hc => ?_)
    · refine r_icT mx_80 li_80_61 (by decide) rfl hc ?_
      refine EV_stq mx_80 (pc' := 93) (L' := [some (.ref l0), some (.int (0 : Int32))]) (st' := []) bo_80_91_e197d6 rfl ?_
      exact e_m_begins_93 hd FU l0 (0 : Int32) M r h
    · refine r_icF mx_80 li_80_61 (by decide) hc ?_
      refine EV_stq mx_80 (pc' := 65) (L' := [some (.ref l0), some (.int l1)]) (st' := [.ref l0]) bo_80_64_446f01 rfl ?_
      refine r_gA mx_80 li_80_65 fd_14_63 rfl h (fun a1 h => ?_)
      refine EV_stq mx_80 (pc' := 70) (L' := [some (.ref l0), some (.int l1)]) (st' := [.int (0 : Int32), .int l1, .ref a1]) bo_80_68_702533 rfl ?_
      refine r_sB mx_80 li_80_70 h (fun M2 h => ?_)
      refine EV_stq mx_80 (pc' := 72) (L' := [some (.ref l0), some (.int l1)]) (st' := [.ref l0]) bo_80_71_2ba9bf rfl ?_
      refine r_gA mx_80 li_80_72 fd_14_72 rfl h (fun a3 h => ?_)
      refine EV_stq mx_80 (pc' := 77) (L' := [some (.ref l0), some (.int l1)]) (st' := [.int (0 : Int32), .int l1, .ref a3]) bo_80_75_c3e58c rfl ?_
      refine r_sI mx_80 li_80_77 h (fun M4 h => ?_)
      refine EV_stq mx_80 (pc' := 79) (L' := [some (.ref l0), some (.int l1)]) (st' := [.ref l0]) bo_80_78_ade702 rfl ?_
      refine r_gA mx_80 li_80_79 fd_14_81 rfl h (fun a5 h => ?_)
      refine EV_stq mx_80 (pc' := 84) (L' := [some (.ref l0), some (.int l1)]) (st' := [.int (0 : Int32), .int l1, .ref a5]) bo_80_82_695807 rfl ?_
      refine r_sI mx_80 li_80_84 h (fun M6 h => ?_)
      refine EV_stq mx_80 (pc' := 58) (L' := [some (.ref l0), some (.int (l1 + (1 : Int32)))]) (st' := []) bo_80_85_63a5e1 rfl ?_
      exact ih l0 (l1 + (1 : Int32)) M6 r h
theorem e_m_begins_17 {d : Nat} (hd : 1 ≤ d) : ∀ (n : Nat) (l0 : Nat) (l1 : Int32) (M : Mem) (r : Mem), f_m_begins_17 n l0 l1 M = some r → EV d 80 17 [some (.ref l0), some (.int l1)] [] M (none, r) := by
  intro n
  induction n with
  | zero => intro l0 l1 M r h; cases h
  | succ n ih =>
    intro l0 l1 M r h
    unfold f_m_begins_17 at h
    refine EV_stq mx_80 (pc' := 20) (L' := [some (.ref l0), some (.int l1)]) (st' := [.int (40000 : Int32), .int l1]) bo_80_17_03196b rfl ?_
    refine h_ge h (fun h hc => ?_) (fun h hc => ?_)
    · refine r_icT mx_80 li_80_20 (by decide) rfl hc ?_
      refine EV_stq mx_80 (pc' := 38) (L' := [some (.ref l0), some (.int l1)]) (st' := [.int (0 : Int32), .ref l0]) bo_80_36_285c9e rfl ?_
      refine r_pI mx_80 li_80_38 fd_14_253 (Or.inl rfl) rfl h (fun M1 h => ?_)
      refine EV_stq mx_80 (pc' := 43) (L' := [some (.ref l0), some (.int l1)]) (st' := [.int (0 : Int32), .ref l0]) bo_80_41_4c2c9e rfl ?_
      refine r_pI mx_80 li_80_43 fd_14_256 (Or.inl rfl) rfl h (fun M2 h => ?_)
      refine EV_stq mx_80 (pc' := 48) (L' := [some (.ref l0), some (.int l1)]) (st' := [.int (0 : Int32), .ref l0]) bo_80_46_341f4e rfl ?_
      refine r_pZ mx_80 li_80_48 fd_14_259 (Or.inl rfl) rfl h (fun M3 h => ?_)
      refine EV_stq mx_80 (pc' := 53) (L' := [some (.ref l0), some (.int l1)]) (st' := [.int (0 : Int32), .ref l0]) bo_80_51_a39201 rfl ?_
      refine r_pI mx_80 li_80_53 fd_14_262 (Or.inl rfl) rfl h (fun M4 h => ?_)
      refine EV_stq mx_80 (pc' := 58) (L' := [some (.ref l0), some (.int (0 : Int32))]) (st' := []) bo_80_56_ba4435 rfl ?_
      exact e_m_begins_58 hd FU l0 (0 : Int32) M4 r h
    · refine r_icF mx_80 li_80_20 (by decide) hc ?_
      refine EV_stq mx_80 (pc' := 24) (L' := [some (.ref l0), some (.int l1)]) (st' := [.ref l0]) bo_80_23_b37e12 rfl ?_
      refine r_gA mx_80 li_80_24 fd_14_148 rfl h (fun a5 h => ?_)
      refine EV_stq mx_80 (pc' := 29) (L' := [some (.ref l0), some (.int l1)]) (st' := [.int (0 : Int32), .int l1, .ref a5]) bo_80_27_fe3fdb rfl ?_
      refine r_sI mx_80 li_80_29 h (fun M6 h => ?_)
      refine EV_stq mx_80 (pc' := 17) (L' := [some (.ref l0), some (.int (l1 + (1 : Int32)))]) (st' := []) bo_80_30_c7d85e rfl ?_
      exact ih l0 (l1 + (1 : Int32)) M6 r h
theorem e_m_begins {d : Nat} (hd : 1 ≤ d) (p0 : Nat) (M : Mem) (r : Mem) (h : f_m_begins p0 M = some r) : EV d 80 0 (entL 2 [.ref p0]) [] M (none, r) := by
  show EV d 80 0 [some (.ref p0), none] [] M _
  unfold f_m_begins at h
  refine EV_stq mx_80 (pc' := 2) (L' := [some (.ref p0), none]) (st' := [.int (0 : Int32), .ref p0]) bo_80_0_264884 rfl ?_
  refine r_pI mx_80 li_80_2 fd_14_243 (Or.inl rfl) rfl h (fun M1 h => ?_)
  refine EV_stq mx_80 (pc' := 7) (L' := [some (.ref p0), none]) (st' := [.int (0 : Int32), .ref p0]) bo_80_5_ca77c4 rfl ?_
  refine r_pI mx_80 li_80_7 fd_14_246 (Or.inl rfl) rfl h (fun M2 h => ?_)
  refine EV_stq mx_80 (pc' := 12) (L' := [some (.ref p0), none]) (st' := [.long (0 : Int64), .ref p0]) bo_80_10_42a704 rfl ?_
  refine r_pJ mx_80 li_80_12 fd_14_249 (Or.inl rfl) rfl h (fun M3 h => ?_)
  refine EV_stq mx_80 (pc' := 17) (L' := [some (.ref p0), some (.int (0 : Int32))]) (st' := []) bo_80_15_d45c32 rfl ?_
  exact e_m_begins_17 hd FU p0 (0 : Int32) M3 r h
theorem e_m_readPipeline_206 {d : Nat} (hd : 3 ≤ d) : ∀ (n : Nat) (l0 : Nat) (l1 : Int32) (l3 : Int32) (M : Mem) (r : Int32 × Mem), f_m_readPipeline_206 n l0 l1 l3 M = some r → EV d 81 206 [some (.ref l0), some (.int l1), none, some (.int l3)] [] M (some (.int r.1), r.2) := by
  intro n
  induction n with
  | zero => intro l0 l1 l3 M r h; cases h
  | succ n ih =>
    intro l0 l1 l3 M r h
    unfold f_m_readPipeline_206 at h
    refine EV_stq mx_81 (pc' := 208) (L' := [some (.ref l0), some (.int l1), none, some (.int l3)]) (st' := [.int l1, .int l3]) bo_81_206_c4f971 rfl ?_
    refine h_gt h (fun h hc => ?_) (fun h hc => ?_)
    · refine r_icT mx_81 li_81_208 (by decide) rfl hc ?_
      refine EV_stq mx_81 (pc' := 266) (L' := [some (.ref l0), some (.int l1), none, some (.int l3)]) (st' := [.ref l0]) bo_81_265_bbb510 rfl ?_
      refine r_gA mx_81 li_81_266 fd_14_13 rfl h (fun a1 h => ?_)
      refine EV_stq mx_81 (pc' := 274) (L' := [some (.ref l0), some (.int l1), none, some (.int l3)]) (st' := [.int (8 : Int32), .int (l1 + (1 : Int32)), .ref a1]) bo_81_269_34dbd1 rfl ?_
      refine r_sI mx_81 li_81_274 h (fun M2 h => ?_)
      refine EV_stq mx_81 (pc' := 276) (L' := [some (.ref l0), some (.int l1), none, some (.int l3)]) (st' := [.ref l0]) bo_81_275_c7603a rfl ?_
      refine r_gA mx_81 li_81_276 fd_14_16 rfl h (fun a3 h => ?_)
      refine EV_stq mx_81 (pc' := 283) (L' := [some (.ref l0), some (.int l1), none, some (.int l3)]) (st' := [.int (0 : Int32), .int (l1 + (1 : Int32)), .ref a3]) bo_81_279_db610f rfl ?_
      refine r_sI mx_81 li_81_283 h (fun M4 h => ?_)
      refine EV_stq mx_81 (pc' := 285) (L' := [some (.ref l0), some (.int l1), none, some (.int l3)]) (st' := [.ref l0]) bo_81_284_df1c59 rfl ?_
      refine r_gA mx_81 li_81_285 fd_14_19 rfl h (fun a5 h => ?_)
      refine EV_stq mx_81 (pc' := 292) (L' := [some (.ref l0), some (.int l1), none, some (.int l3)]) (st' := [.int (0 : Int32), .int (l1 + (1 : Int32)), .ref a5]) bo_81_288_2b2146 rfl ?_
      refine r_sI mx_81 li_81_292 h (fun M6 h => ?_)
      refine EV_stq mx_81 (pc' := 294) (L' := [some (.ref l0), some (.int l1), none, some (.int l3)]) (st' := [.ref l0]) bo_81_293_aab9c9 rfl ?_
      refine r_gA mx_81 li_81_294 fd_14_22 rfl h (fun a7 h => ?_)
      refine EV_stq mx_81 (pc' := 301) (L' := [some (.ref l0), some (.int l1), none, some (.int l3)]) (st' := [.ref l0, .int (l1 + (1 : Int32)), .ref a7]) bo_81_297_74f684 rfl ?_
      refine r_gA mx_81 li_81_301 fd_14_160 rfl h (fun a8 h => ?_)
      refine EV_stq mx_81 (pc' := 307) (L' := [some (.ref l0), some (.int l1), none, some (.int l3)]) (st' := [.int (l1 + (1 : Int32)), .ref a8, .int (l1 + (1 : Int32)), .ref a7]) bo_81_304_6a6719 rfl ?_
      refine r_aI mx_81 li_81_307 h (fun v9 h => ?_)
      refine r_sI mx_81 li_81_308 h (fun M10 h => ?_)
      refine EV_stq mx_81 (pc' := 310) (L' := [some (.ref l0), some (.int l1), none, some (.int l3)]) (st' := [.ref l0]) bo_81_309_7b2c08 rfl ?_
      refine h_ck h (fun hc h => ?_)
      refine h_cV h (fun M11 e h => ?_)
      refine EV_call [.ref l0] [] mx_81 li_81_310 rfl rfl si_14_240 rfl (by decide) (by decide) (by omega) ma_80 rfl (Nat.le_of_ble_eq_true rfl) rfl rfl (Nat.le_of_ble_eq_true rfl) (rc_1 mt_at_80 rfl rfl (by decide) hc) (e_m_begins (by omega) l0 M10 _ e) ?_
      show EV d 81 313 [some (.ref l0), some (.int l1), none, some (.int l3)] [] M11 _
      refine EV_stq mx_81 (pc' := 314) (L' := [some (.ref l0), some (.int l1), none, some (.int l3)]) (st' := [.int l1]) bo_81_313_e50e5c rfl ?_
      obtain rfl := Option.some.inj h
      exact r_ret mx_81 li_81_314 rfl ro_int
    · refine r_icF mx_81 li_81_208 (by decide) hc ?_
      refine EV_stq mx_81 (pc' := 212) (L' := [some (.ref l0), some (.int l1), none, some (.int l3)]) (st' := [.ref l0]) bo_81_211_fe9fe9 rfl ?_
      refine r_gA mx_81 li_81_212 fd_14_13 rfl h (fun a12 h => ?_)
      refine EV_stq mx_81 (pc' := 217) (L' := [some (.ref l0), some (.int l1), none, some (.int l3)]) (st' := [.ref l0, .int l3, .ref a12]) bo_81_215_1eb4ab rfl ?_
      refine r_gA mx_81 li_81_217 fd_14_151 rfl h (fun a13 h => ?_)
      refine EV_stq mx_81 (pc' := 221) (L' := [some (.ref l0), some (.int l1), none, some (.int l3)]) (st' := [.int l3, .ref a13, .int l3, .ref a12]) bo_81_220_82dbe1 rfl ?_
      refine r_aI mx_81 li_81_221 h (fun v14 h => ?_)
      refine r_sI mx_81 li_81_222 h (fun M15 h => ?_)
      refine EV_stq mx_81 (pc' := 224) (L' := [some (.ref l0), some (.int l1), none, some (.int l3)]) (st' := [.ref l0]) bo_81_223_6c8511 rfl ?_
      refine r_gA mx_81 li_81_224 fd_14_16 rfl h (fun a16 h => ?_)
      refine EV_stq mx_81 (pc' := 229) (L' := [some (.ref l0), some (.int l1), none, some (.int l3)]) (st' := [.ref l0, .int l3, .ref a16]) bo_81_227_0bf377 rfl ?_
      refine r_gA mx_81 li_81_229 fd_14_154 rfl h (fun a17 h => ?_)
      refine EV_stq mx_81 (pc' := 233) (L' := [some (.ref l0), some (.int l1), none, some (.int l3)]) (st' := [.int l3, .ref a17, .int l3, .ref a16]) bo_81_232_d77f52 rfl ?_
      refine r_aI mx_81 li_81_233 h (fun v18 h => ?_)
      refine r_sI mx_81 li_81_234 h (fun M19 h => ?_)
      refine EV_stq mx_81 (pc' := 236) (L' := [some (.ref l0), some (.int l1), none, some (.int l3)]) (st' := [.ref l0]) bo_81_235_a35f56 rfl ?_
      refine r_gA mx_81 li_81_236 fd_14_19 rfl h (fun a20 h => ?_)
      refine EV_stq mx_81 (pc' := 241) (L' := [some (.ref l0), some (.int l1), none, some (.int l3)]) (st' := [.ref l0, .int l3, .ref a20]) bo_81_239_722975 rfl ?_
      refine r_gA mx_81 li_81_241 fd_14_157 rfl h (fun a21 h => ?_)
      refine EV_stq mx_81 (pc' := 245) (L' := [some (.ref l0), some (.int l1), none, some (.int l3)]) (st' := [.int l3, .ref a21, .int l3, .ref a20]) bo_81_244_54d8b4 rfl ?_
      refine r_aI mx_81 li_81_245 h (fun v22 h => ?_)
      refine r_sI mx_81 li_81_246 h (fun M23 h => ?_)
      refine EV_stq mx_81 (pc' := 248) (L' := [some (.ref l0), some (.int l1), none, some (.int l3)]) (st' := [.ref l0]) bo_81_247_28ff05 rfl ?_
      refine r_gA mx_81 li_81_248 fd_14_22 rfl h (fun a24 h => ?_)
      refine EV_stq mx_81 (pc' := 253) (L' := [some (.ref l0), some (.int l1), none, some (.int l3)]) (st' := [.ref l0, .int l3, .ref a24]) bo_81_251_c66976 rfl ?_
      refine r_gA mx_81 li_81_253 fd_14_160 rfl h (fun a25 h => ?_)
      refine EV_stq mx_81 (pc' := 257) (L' := [some (.ref l0), some (.int l1), none, some (.int l3)]) (st' := [.int l3, .ref a25, .int l3, .ref a24]) bo_81_256_b134b4 rfl ?_
      refine r_aI mx_81 li_81_257 h (fun v26 h => ?_)
      refine r_sI mx_81 li_81_258 h (fun M27 h => ?_)
      refine EV_stq mx_81 (pc' := 206) (L' := [some (.ref l0), some (.int l1), none, some (.int (l3 + (1 : Int32)))]) (st' := []) bo_81_259_7827d3 rfl ?_
      exact ih l0 l1 (l3 + (1 : Int32)) M27 r h
theorem e_m_readPipeline_174 {d : Nat} (hd : 3 ≤ d) (l0 : Nat) (l1 : Int32) (s0 : Int32) (s1 : Int32) (s2 : Nat) (M : Mem) (r : Int32 × Mem) (h : f_m_readPipeline_174 l0 l1 s0 s1 s2 M = some r) : EV d 81 174 [some (.ref l0), some (.int l1), none, none] [.int s0, .int s1, .ref s2] M (some (.int r.1), r.2) := by
  unfold f_m_readPipeline_174 at h
  refine EV_stq mx_81 (pc' := 175) (L' := [some (.ref l0), some (.int l1), none, none]) (st' := [.int (s1 ||| s0), .ref s2]) bo_81_174_413a52 rfl ?_
  refine r_pZ mx_81 li_81_175 fd_14_215 (Or.inl rfl) rfl h (fun M1 h => ?_)
  refine EV_stq mx_81 (pc' := 180) (L' := [some (.ref l0), some (.int l1), none, none]) (st' := [.int (0 : Int32), .ref l0]) bo_81_178_b54c93 rfl ?_
  refine r_pI mx_81 li_81_180 fd_14_208 (Or.inl rfl) rfl h (fun M2 h => ?_)
  refine EV_stq mx_81 (pc' := 184) (L' := [some (.ref l0), some (.int l1), none, none]) (st' := [.ref l0]) bo_81_183_e2873b rfl ?_
  refine r_gI mx_81 li_81_184 fd_14_215 ⟨by decide, by decide⟩ h (fun v3 h => ?_)
  refine h_eq h (fun h hc => ?_) (fun h hc => ?_)
  · refine r_ifT mx_81 li_81_187 (by decide) rfl hc ?_
    refine EV_stq mx_81 (pc' := 201) (L' := [some (.ref l0), some (.int l1), none, none]) (st' := [.int l1, .ref l0]) bo_81_199_9246c1 rfl ?_
    refine r_pI mx_81 li_81_201 fd_14_196 (Or.inl rfl) rfl h (fun M4 h => ?_)
    refine EV_stq mx_81 (pc' := 206) (L' := [some (.ref l0), some (.int l1), none, some (.int (1 : Int32))]) (st' := []) bo_81_204_458d6e rfl ?_
    exact e_m_readPipeline_206 hd FU l0 l1 (1 : Int32) M4 r h
  · refine r_ifF mx_81 li_81_187 (by decide) hc ?_
    refine EV_stq mx_81 (pc' := 194) (L' := [some (.ref l0), some (.int l1), none, none]) (st' := [.ref l0, .int (-2000 : Int32)]) bo_81_190_59be1b rfl ?_
    refine r_gI mx_81 li_81_194 fd_14_212 ⟨by decide, by decide⟩ h (fun v5 h => ?_)
    refine EV_stq mx_81 (pc' := 198) (L' := [some (.ref l0), some (.int l1), none, none]) (st' := [.int ((-2000 : Int32) - v5)]) bo_81_197_f35caa rfl ?_
    obtain rfl := Option.some.inj h
    exact r_ret mx_81 li_81_198 rfl ro_int
theorem e_m_readPipeline_153 {d : Nat} (hd : 3 ≤ d) (l0 : Nat) (l1 : Int32) (M : Mem) (r : Int32 × Mem) (h : f_m_readPipeline_153 l0 l1 M = some r) : EV d 81 153 [some (.ref l0), some (.int l1), none, none] [] M (some (.int r.1), r.2) := by
  unfold f_m_readPipeline_153 at h
  refine EV_stq mx_81 (pc' := 155) (L' := [some (.ref l0), some (.int l1), none, none]) (st' := [.ref l0, .ref l0]) bo_81_153_10d163 rfl ?_
  refine r_gI mx_81 li_81_155 fd_14_215 ⟨by decide, by decide⟩ h (fun v1 h => ?_)
  refine EV_stq mx_81 (pc' := 159) (L' := [some (.ref l0), some (.int l1), none, none]) (st' := [.ref l0, .int v1, .ref l0]) bo_81_158_f605b0 rfl ?_
  refine r_gI mx_81 li_81_159 fd_14_212 ⟨by decide, by decide⟩ h (fun v2 h => ?_)
  refine EV_stq mx_81 (pc' := 163) (L' := [some (.ref l0), some (.int l1), none, none]) (st' := [.ref l0, .int v2, .int v1, .ref l0]) bo_81_162_7ec365 rfl ?_
  refine r_gI mx_81 li_81_163 fd_14_208 ⟨by decide, by decide⟩ h (fun v3 h => ?_)
  refine h_ge h (fun h hc => ?_) (fun h hc => ?_)
  · refine r_icT mx_81 li_81_166 (by decide) rfl hc ?_
    refine EV_stq mx_81 (pc' := 174) (L' := [some (.ref l0), some (.int l1), none, none]) (st' := [.int (0 : Int32), .int v1, .ref l0]) bo_81_173_5c8c37 rfl ?_
    exact e_m_readPipeline_174 hd l0 l1 (0 : Int32) v1 l0 M r h
  · refine r_icF mx_81 li_81_166 (by decide) hc ?_
    refine EV_stq mx_81 (pc' := 174) (L' := [some (.ref l0), some (.int l1), none, none]) (st' := [.int (1 : Int32), .int v1, .ref l0]) bo_81_169_57ebd2 rfl ?_
    exact e_m_readPipeline_174 hd l0 l1 (1 : Int32) v1 l0 M r h
theorem e_m_readPipeline_113 {d : Nat} (hd : 3 ≤ d) (l0 : Nat) (l1 : Int32) (s0 : Int32) (s1 : Nat) (M : Mem) (r : Int32 × Mem) (h : f_m_readPipeline_113 l0 l1 s0 s1 M = some r) : EV d 81 113 [some (.ref l0), some (.int l1), none, none] [.int s0, .ref s1] M (some (.int r.1), r.2) := by
  unfold f_m_readPipeline_113 at h
  refine EV_stq mx_81 (pc' := 114) (L' := [some (.ref l0), some (.int l1), none, none]) (st' := [.int (1 : Int32), .int s0, .ref s1]) bo_81_113_1912b2 rfl ?_
  refine r_sI mx_81 li_81_114 h (fun M1 h => ?_)
  refine EV_stq mx_81 (pc' := 116) (L' := [some (.ref l0), some (.int l1), none, none]) (st' := [.ref l0]) bo_81_115_b9a51b rfl ?_
  refine r_gI mx_81 li_81_116 fd_14_215 ⟨by decide, by decide⟩ h (fun v2 h => ?_)
  refine h_ne h (fun h hc => ?_) (fun h hc => ?_)
  · refine r_ifF mx_81 li_81_119 (by decide) hc ?_
    refine EV_stq mx_81 (pc' := 123) (L' := [some (.ref l0), some (.int l1), none, none]) (st' := [.ref l0]) bo_81_122_61bca2 rfl ?_
    refine h_ck h (fun hc h => ?_)
    refine h_cI h (fun v4 M3 e h => ?_)
    refine EV_call [.ref l0] [] mx_81 li_81_123 rfl rfl si_14_219 rfl (by decide) (by decide) (by omega) ma_73 rfl (Nat.le_of_ble_eq_true rfl) rfl rfl (Nat.le_of_ble_eq_true rfl) (rc_1 mt_at_73 rfl rfl (by decide) hc) (e_m_here (by omega) l0 M1 _ e) ?_
    show EV d 81 126 [some (.ref l0), some (.int l1), none, none] [.int v4] M3 _
    refine EV_stq mx_81 (pc' := 128) (L' := [some (.ref l0), some (.int l1), none, none]) (st' := [.int (36 : Int32), .int v4]) bo_81_126_5d1f94 rfl ?_
    refine h_ne h (fun h hc => ?_) (fun h hc => ?_)
    · refine r_icF mx_81 li_81_128 (by decide) hc ?_
      refine EV_stq mx_81 (pc' := 133) (L' := [some (.ref l0), some (.int l1), none, none]) (st' := [.ref l0, .ref l0]) bo_81_131_020aa4 rfl ?_
      refine r_gI mx_81 li_81_133 fd_14_212 ⟨by decide, by decide⟩ h (fun v5 h => ?_)
      refine EV_stq mx_81 (pc' := 138) (L' := [some (.ref l0), some (.int l1), none, none]) (st' := [.int (v5 + (1 : Int32)), .ref l0]) bo_81_136_77463b rfl ?_
      refine r_pI mx_81 li_81_138 fd_14_212 (Or.inl rfl) rfl h (fun M6 h => ?_)
      refine EV_stq mx_81 (pc' := 142) (L' := [some (.ref l0), some (.int l1), none, none]) (st' := [.ref l0]) bo_81_141_b0c808 rfl ?_
      refine r_gA mx_81 li_81_142 fd_14_160 rfl h (fun a7 h => ?_)
      refine EV_stq mx_81 (pc' := 149) (L' := [some (.ref l0), some (.int l1), none, none]) (st' := [.ref l0, .int (l1 + (1 : Int32)), .ref a7]) bo_81_145_0fb9d9 rfl ?_
      refine h_ck h (fun hc h => ?_)
      refine h_cI h (fun v9 M8 e h => ?_)
      refine EV_call [.ref l0] [.int (l1 + (1 : Int32)), .ref a7] mx_81 li_81_149 rfl rfl si_14_234 rfl (by decide) (by decide) (by omega) ma_77 rfl (Nat.le_of_ble_eq_true rfl) rfl rfl (Nat.le_of_ble_eq_true rfl) (rc_1 mt_at_77 rfl rfl (by decide) hc) (e_m_instances (by omega) l0 M6 _ e) ?_
      show EV d 81 152 [some (.ref l0), some (.int l1), none, none] [.int v9, .int (l1 + (1 : Int32)), .ref a7] M8 _
      refine r_sI mx_81 li_81_152 h (fun M10 h => ?_)
      exact e_m_readPipeline_153 hd l0 l1 M10 r h
    · refine r_icT mx_81 li_81_128 (by decide) rfl hc ?_
      exact e_m_readPipeline_153 hd l0 l1 M3 r h
  · refine r_ifT mx_81 li_81_119 (by decide) rfl hc ?_
    exact e_m_readPipeline_153 hd l0 l1 M1 r h
theorem e_m_readPipeline_87 {d : Nat} (hd : 3 ≤ d) (k34 : Nat → Int32 → Int32 → Mem → Option (Int32 × Mem)) (hk34 : ∀ l0 l1 l2 M r, k34 l0 l1 l2 M = some r → EV d 81 34 [some (.ref l0), some (.int l1), some (.int l2), none] [] M (some (.int r.1), r.2)) (l0 : Nat) (l1 : Int32) (l2 : Int32) (s0 : Int32) (s1 : Int32) (s2 : Nat) (M : Mem) (r : Int32 × Mem) (h : f_m_readPipeline_87 k34 l0 l1 l2 s0 s1 s2 M = some r) : EV d 81 87 [some (.ref l0), some (.int l1), some (.int l2), none] [.int s0, .int s1, .ref s2] M (some (.int r.1), r.2) := by
  unfold f_m_readPipeline_87 at h
  refine EV_stq mx_81 (pc' := 88) (L' := [some (.ref l0), some (.int l1), some (.int l2), none]) (st' := [.int (s1 + s0), .ref s2]) bo_81_87_816bca rfl ?_
  refine r_pI mx_81 li_81_88 fd_14_212 (Or.inl rfl) rfl h (fun M1 h => ?_)
  refine EV_stq mx_81 (pc' := 34) (L' := [some (.ref l0), some (.int l1), some (.int l2), none]) (st' := []) bo_81_91_23d558 rfl ?_
  exact hk34 l0 l1 l2 M1 r h
theorem e_m_readPipeline_72 {d : Nat} (hd : 3 ≤ d) (k34 : Nat → Int32 → Int32 → Mem → Option (Int32 × Mem)) (hk34 : ∀ l0 l1 l2 M r, k34 l0 l1 l2 M = some r → EV d 81 34 [some (.ref l0), some (.int l1), some (.int l2), none] [] M (some (.int r.1), r.2)) (l0 : Nat) (l1 : Int32) (s0 : Int32) (M : Mem) (r : Int32 × Mem) (h : f_m_readPipeline_72 k34 l0 l1 s0 M = some r) : EV d 81 72 [some (.ref l0), some (.int l1), none, none] [.int s0] M (some (.int r.1), r.2) := by
  unfold f_m_readPipeline_72 at h
  refine EV_stq mx_81 (pc' := 75) (L' := [some (.ref l0), some (.int l1), some (.int s0), none]) (st' := [.ref l0, .ref l0]) bo_81_72_4203c3 rfl ?_
  refine r_gI mx_81 li_81_75 fd_14_212 ⟨by decide, by decide⟩ h (fun v1 h => ?_)
  refine EV_stq mx_81 (pc' := 79) (L' := [some (.ref l0), some (.int l1), some (.int s0), none]) (st' := [.int s0, .int v1, .ref l0]) bo_81_78_ade702 rfl ?_
  refine h_eq h (fun h hc => ?_) (fun h hc => ?_)
  · refine r_ifT mx_81 li_81_79 (by decide) rfl hc ?_
    refine EV_stq mx_81 (pc' := 87) (L' := [some (.ref l0), some (.int l1), some (.int s0), none]) (st' := [.int (0 : Int32), .int v1, .ref l0]) bo_81_86_bff005 rfl ?_
    exact e_m_readPipeline_87 hd k34 hk34 l0 l1 s0 (0 : Int32) v1 l0 M r h
  · refine r_ifF mx_81 li_81_79 (by decide) hc ?_
    refine EV_stq mx_81 (pc' := 87) (L' := [some (.ref l0), some (.int l1), some (.int s0), none]) (st' := [.int (1 : Int32), .int v1, .ref l0]) bo_81_82_695807 rfl ?_
    exact e_m_readPipeline_87 hd k34 hk34 l0 l1 s0 (1 : Int32) v1 l0 M r h
theorem e_m_readPipeline_71 {d : Nat} (hd : 3 ≤ d) (k34 : Nat → Int32 → Int32 → Mem → Option (Int32 × Mem)) (hk34 : ∀ l0 l1 l2 M r, k34 l0 l1 l2 M = some r → EV d 81 34 [some (.ref l0), some (.int l1), some (.int l2), none] [] M (some (.int r.1), r.2)) (l0 : Nat) (l1 : Int32) (M : Mem) (r : Int32 × Mem) (h : f_m_readPipeline_71 k34 l0 l1 M = some r) : EV d 81 71 [some (.ref l0), some (.int l1), none, none] [] M (some (.int r.1), r.2) := by
  unfold f_m_readPipeline_71 at h
  refine EV_stq mx_81 (pc' := 72) (L' := [some (.ref l0), some (.int l1), none, none]) (st' := [.int (0 : Int32)]) bo_81_71_2ba9bf rfl ?_
  exact e_m_readPipeline_72 hd k34 hk34 l0 l1 (0 : Int32) M r h
theorem e_m_readPipeline_34 {d : Nat} (hd : 3 ≤ d) : ∀ (n : Nat) (l0 : Nat) (l1 : Int32) (l2 : Int32) (M : Mem) (r : Int32 × Mem), f_m_readPipeline_34 n l0 l1 l2 M = some r → EV d 81 34 [some (.ref l0), some (.int l1), some (.int l2), none] [] M (some (.int r.1), r.2) := by
  intro n
  induction n with
  | zero => intro l0 l1 l2 M r h; cases h
  | succ n ih =>
    intro l0 l1 l2 M r h
    unfold f_m_readPipeline_34 at h
    refine EV_stq mx_81 (pc' := 35) (L' := [some (.ref l0), some (.int l1), some (.int l2), none]) (st' := [.int l2]) bo_81_34_130638 rfl ?_
    refine h_eq h (fun h hc => ?_) (fun h hc => ?_)
    · refine r_ifT mx_81 li_81_35 (by decide) rfl hc ?_
      refine EV_stq mx_81 (pc' := 95) (L' := [some (.ref l0), some (.int l1), some (.int l2), none]) (st' := [.ref l0]) bo_81_94_6615ab rfl ?_
      refine r_gA mx_81 li_81_95 fd_14_160 rfl h (fun a1 h => ?_)
      refine EV_stq mx_81 (pc' := 103) (L' := [some (.ref l0), some (.int l1), some (.int l2), none]) (st' := [.int (6 : Int32), .int (l1 + (1 : Int32)), .ref a1]) bo_81_98_d3ea59 rfl ?_
      refine h_ge h (fun h hc => ?_) (fun h hc => ?_)
      · refine r_icT mx_81 li_81_103 (by decide) rfl hc ?_
        refine EV_stq mx_81 (pc' := 113) (L' := [some (.ref l0), some (.int l1), some (.int l2), none]) (st' := [.int (0 : Int32), .ref a1]) bo_81_112_a01649 rfl ?_
        refine EV_forget (A := [some (.ref l0), some (.int l1), none, none]) (lsub_of _ _ ⟨Or.inr rfl, ⟨Or.inr rfl, ⟨Or.inl rfl, ⟨Or.inl rfl, trivial⟩⟩⟩⟩) ?_
        exact e_m_readPipeline_113 hd l0 l1 (0 : Int32) a1 M r h
      · refine r_icF mx_81 li_81_103 (by decide) hc ?_
        refine EV_stq mx_81 (pc' := 113) (L' := [some (.ref l0), some (.int l1), some (.int l2), none]) (st' := [.int (l1 + (1 : Int32)), .ref a1]) bo_81_106_18132c rfl ?_
        refine EV_forget (A := [some (.ref l0), some (.int l1), none, none]) (lsub_of _ _ ⟨Or.inr rfl, ⟨Or.inr rfl, ⟨Or.inl rfl, ⟨Or.inl rfl, trivial⟩⟩⟩⟩) ?_
        exact e_m_readPipeline_113 hd l0 l1 (l1 + (1 : Int32)) a1 M r h
    · refine r_ifF mx_81 li_81_35 (by decide) hc ?_
      refine EV_stq mx_81 (pc' := 43) (L' := [some (.ref l0), some (.int (l1 + (1 : Int32))), some (.int l2), none]) (st' := [.int (l1 + (1 : Int32)), .ref l0]) bo_81_38_53874e rfl ?_
      refine h_ck h (fun hc h => ?_)
      refine h_cV h (fun M2 e h => ?_)
      refine EV_call [.ref l0, .int (l1 + (1 : Int32))] [] mx_81 li_81_43 rfl rfl si_14_237 rfl (by decide) (by decide) (by omega) ma_78 rfl (Nat.le_of_ble_eq_true rfl) rfl rfl (Nat.le_of_ble_eq_true rfl) (rc_1 mt_at_78 rfl rfl (by decide) hc) (e_m_stage (by omega) l0 (l1 + (1 : Int32)) M _ e) ?_
      show EV d 81 46 [some (.ref l0), some (.int (l1 + (1 : Int32))), some (.int l2), none] [] M2 _
      refine EV_stq mx_81 (pc' := 47) (L' := [some (.ref l0), some (.int (l1 + (1 : Int32))), some (.int l2), none]) (st' := [.ref l0]) bo_81_46_4b02d4 rfl ?_
      refine r_gI mx_81 li_81_47 fd_14_215 ⟨by decide, by decide⟩ h (fun v3 h => ?_)
      refine h_ne h (fun h hc => ?_) (fun h hc => ?_)
      · refine r_ifF mx_81 li_81_50 (by decide) hc ?_
        refine EV_stq mx_81 (pc' := 54) (L' := [some (.ref l0), some (.int (l1 + (1 : Int32))), some (.int l2), none]) (st' := [.ref l0]) bo_81_53_a422c0 rfl ?_
        refine h_ck h (fun hc h => ?_)
        refine h_cI h (fun v5 M4 e h => ?_)
        refine EV_call [.ref l0] [] mx_81 li_81_54 rfl rfl si_14_219 rfl (by decide) (by decide) (by omega) ma_73 rfl (Nat.le_of_ble_eq_true rfl) rfl rfl (Nat.le_of_ble_eq_true rfl) (rc_1 mt_at_73 rfl rfl (by decide) hc) (e_m_here (by omega) l0 M2 _ e) ?_
        show EV d 81 57 [some (.ref l0), some (.int (l1 + (1 : Int32))), some (.int l2), none] [.int v5] M4 _
        refine EV_stq mx_81 (pc' := 59) (L' := [some (.ref l0), some (.int (l1 + (1 : Int32))), some (.int l2), none]) (st' := [.int (124 : Int32), .int v5]) bo_81_57_a9d9a3 rfl ?_
        refine h_ne h (fun h hc => ?_) (fun h hc => ?_)
        · refine r_icF mx_81 li_81_59 (by decide) hc ?_
          refine EV_stq mx_81 (pc' := 64) (L' := [some (.ref l0), some (.int (l1 + (1 : Int32))), some (.int l2), none]) (st' := [.int (4 : Int32), .int (l1 + (1 : Int32))]) bo_81_62_322124 rfl ?_
          refine h_ge h (fun h hc => ?_) (fun h hc => ?_)
          · refine r_icT mx_81 li_81_64 (by decide) rfl hc ?_
            refine EV_forget (A := [some (.ref l0), some (.int (l1 + (1 : Int32))), none, none]) (lsub_of _ _ ⟨Or.inr rfl, ⟨Or.inr rfl, ⟨Or.inl rfl, ⟨Or.inl rfl, trivial⟩⟩⟩⟩) ?_
            exact e_m_readPipeline_71 hd _ ih l0 (l1 + (1 : Int32)) M4 r h
          · refine r_icF mx_81 li_81_64 (by decide) hc ?_
            refine EV_stq mx_81 (pc' := 72) (L' := [some (.ref l0), some (.int (l1 + (1 : Int32))), some (.int l2), none]) (st' := [.int (1 : Int32)]) bo_81_67_d1bdfd rfl ?_
            refine EV_forget (A := [some (.ref l0), some (.int (l1 + (1 : Int32))), none, none]) (lsub_of _ _ ⟨Or.inr rfl, ⟨Or.inr rfl, ⟨Or.inl rfl, ⟨Or.inl rfl, trivial⟩⟩⟩⟩) ?_
            exact e_m_readPipeline_72 hd _ ih l0 (l1 + (1 : Int32)) (1 : Int32) M4 r h
        · refine r_icT mx_81 li_81_59 (by decide) rfl hc ?_
          refine EV_forget (A := [some (.ref l0), some (.int (l1 + (1 : Int32))), none, none]) (lsub_of _ _ ⟨Or.inr rfl, ⟨Or.inr rfl, ⟨Or.inl rfl, ⟨Or.inl rfl, trivial⟩⟩⟩⟩) ?_
          exact e_m_readPipeline_71 hd _ ih l0 (l1 + (1 : Int32)) M4 r h
      · refine r_ifT mx_81 li_81_50 (by decide) rfl hc ?_
        refine EV_forget (A := [some (.ref l0), some (.int (l1 + (1 : Int32))), none, none]) (lsub_of _ _ ⟨Or.inr rfl, ⟨Or.inr rfl, ⟨Or.inl rfl, ⟨Or.inl rfl, trivial⟩⟩⟩⟩) ?_
        exact e_m_readPipeline_71 hd _ ih l0 (l1 + (1 : Int32)) M2 r h
theorem e_m_readPipeline_33 {d : Nat} (hd : 3 ≤ d) (l0 : Nat) (l1 : Int32) (s0 : Int32) (M : Mem) (r : Int32 × Mem) (h : f_m_readPipeline_33 l0 l1 s0 M = some r) : EV d 81 33 [some (.ref l0), some (.int l1), none, none] [.int s0] M (some (.int r.1), r.2) := by
  unfold f_m_readPipeline_33 at h
  refine EV_stq mx_81 (pc' := 34) (L' := [some (.ref l0), some (.int l1), some (.int s0), none]) (st' := []) bo_81_33_1dc721 rfl ?_
  exact e_m_readPipeline_34 hd FU l0 l1 s0 M r h
theorem e_m_readPipeline_32 {d : Nat} (hd : 3 ≤ d) (l0 : Nat) (l1 : Int32) (M : Mem) (r : Int32 × Mem) (h : f_m_readPipeline_32 l0 l1 M = some r) : EV d 81 32 [some (.ref l0), some (.int l1), none, none] [] M (some (.int r.1), r.2) := by
  unfold f_m_readPipeline_32 at h
  refine EV_stq mx_81 (pc' := 33) (L' := [some (.ref l0), some (.int l1), none, none]) (st' := [.int (0 : Int32)]) bo_81_32_191034 rfl ?_
  exact e_m_readPipeline_33 hd l0 l1 (0 : Int32) M r h
theorem e_m_readPipeline {d : Nat} (hd : 3 ≤ d) (p0 : Nat) (M : Mem) (r : Int32 × Mem) (h : f_m_readPipeline p0 M = some r) : EV d 81 0 (entL 4 [.ref p0]) [] M (some (.int r.1), r.2) := by
  show EV d 81 0 [some (.ref p0), none, none, none] [] M _
  unfold f_m_readPipeline at h
  refine EV_stq mx_81 (pc' := 2) (L' := [some (.ref p0), none, none, none]) (st' := [.int (0 : Int32), .ref p0]) bo_81_0_264884 rfl ?_
  refine r_pI mx_81 li_81_2 fd_14_212 (Or.inl rfl) rfl h (fun M1 h => ?_)
  refine EV_stq mx_81 (pc' := 7) (L' := [some (.ref p0), none, none, none]) (st' := [.int (0 : Int32), .ref p0]) bo_81_5_ca77c4 rfl ?_
  refine r_pZ mx_81 li_81_7 fd_14_215 (Or.inl rfl) rfl h (fun M2 h => ?_)
  refine EV_stq mx_81 (pc' := 13) (L' := [some (.ref p0), some (.int (0 : Int32)), none, none]) (st' := [.ref p0]) bo_81_10_4b0123 rfl ?_
  refine r_gI mx_81 li_81_13 fd_14_208 ⟨by decide, by decide⟩ h (fun v3 h => ?_)
  refine h_le h (fun h hc => ?_) (fun h hc => ?_)
  · refine r_ifT mx_81 li_81_16 (by decide) rfl hc ?_
    exact e_m_readPipeline_32 hd p0 (0 : Int32) M2 r h
  · refine r_ifF mx_81 li_81_16 (by decide) hc ?_
    refine EV_stq mx_81 (pc' := 20) (L' := [some (.ref p0), some (.int (0 : Int32)), none, none]) (st' := [.ref p0]) bo_81_19_1a8444 rfl ?_
    refine h_ck h (fun hc h => ?_)
    refine h_cI h (fun v5 M4 e h => ?_)
    refine EV_call [.ref p0] [] mx_81 li_81_20 rfl rfl si_14_219 rfl (by decide) (by decide) (by omega) ma_73 rfl (Nat.le_of_ble_eq_true rfl) rfl rfl (Nat.le_of_ble_eq_true rfl) (rc_1 mt_at_73 rfl rfl (by decide) hc) (e_m_here (by omega) p0 M2 _ e) ?_
    show EV d 81 23 [some (.ref p0), some (.int (0 : Int32)), none, none] [.int v5] M4 _
    refine EV_stq mx_81 (pc' := 25) (L' := [some (.ref p0), some (.int (0 : Int32)), none, none]) (st' := [.int (36 : Int32), .int v5]) bo_81_23_b37e12 rfl ?_
    refine h_eq h (fun h hc => ?_) (fun h hc => ?_)
    · refine r_icT mx_81 li_81_25 (by decide) rfl hc ?_
      exact e_m_readPipeline_32 hd p0 (0 : Int32) M4 r h
    · refine r_icF mx_81 li_81_25 (by decide) hc ?_
      refine EV_stq mx_81 (pc' := 33) (L' := [some (.ref p0), some (.int (0 : Int32)), none, none]) (st' := [.int (1 : Int32)]) bo_81_28_533662 rfl ?_
      exact e_m_readPipeline_33 hd p0 (0 : Int32) (1 : Int32) M4 r h
theorem e_se_digits {d : Nat} (hd : 0 ≤ d) (p0 : Nat) (M : Mem) (r : Int32 × Mem) (h : f_se_digits p0 M = some r) : EV d 82 0 (entL 1 [.ref p0]) [] M (some (.int r.1), r.2) := by
  show EV d 82 0 [some (.ref p0)] [] M _
  unfold f_se_digits at h
  refine EV_stq mx_82 (pc' := 1) (L' := [some (.ref p0)]) (st' := [.ref p0]) bo_82_0_8d5162 rfl ?_
  refine r_gI mx_82 li_82_1 fd_3_7 ⟨by decide, by decide⟩ h (fun v1 h => ?_)
  refine EV_stq mx_82 (pc' := 9) (L' := [some (.ref p0)]) (st' := [.ref p0, .int (v1 * (1000 : Int32))]) bo_82_4_16e6de rfl ?_
  refine r_gI mx_82 li_82_9 fd_3_13 ⟨by decide, by decide⟩ h (fun v2 h => ?_)
  refine EV_stq mx_82 (pc' := 17) (L' := [some (.ref p0)]) (st' := [.ref p0, .int ((v1 * (1000 : Int32)) + (v2 * (100 : Int32)))]) bo_82_12_5c947b rfl ?_
  refine r_gI mx_82 li_82_17 fd_3_16 ⟨by decide, by decide⟩ h (fun v3 h => ?_)
  refine EV_stq mx_82 (pc' := 25) (L' := [some (.ref p0)]) (st' := [.ref p0, .int (((v1 * (1000 : Int32)) + (v2 * (100 : Int32))) + (v3 * (10 : Int32)))]) bo_82_20_b53169 rfl ?_
  refine r_gI mx_82 li_82_25 fd_3_19 ⟨by decide, by decide⟩ h (fun v4 h => ?_)
  refine EV_stq mx_82 (pc' := 29) (L' := [some (.ref p0)]) (st' := [.int ((((v1 * (1000 : Int32)) + (v2 * (100 : Int32))) + (v3 * (10 : Int32))) + v4)]) bo_82_28_f39cd0 rfl ?_
  obtain rfl := Option.some.inj h
  exact r_ret mx_82 li_82_29 rfl ro_int
theorem e_se_change {d : Nat} (hd : 0 ≤ d) (p0 : Nat) (p1 : Int32) (p2 : Int32) (p3 : Int32) (p4 : Int32) (M : Mem) (r : Mem) (h : f_se_change p0 p1 p2 p3 p4 M = some r) : EV d 83 0 (entL 5 [.ref p0, .int p1, .int p2, .int p3, .int p4]) [] M (none, r) := by
  show EV d 83 0 [some (.ref p0), some (.int p1), some (.int p2), some (.int p3), some (.int p4)] [] M _
  unfold f_se_change at h
  refine EV_stq mx_83 (pc' := 2) (L' := [some (.ref p0), some (.int p1), some (.int p2), some (.int p3), some (.int p4)]) (st' := [.int p1, .ref p0]) bo_83_0_264884 rfl ?_
  refine r_pI mx_83 li_83_2 fd_3_7 (Or.inl rfl) rfl h (fun M1 h => ?_)
  refine EV_stq mx_83 (pc' := 7) (L' := [some (.ref p0), some (.int p1), some (.int p2), some (.int p3), some (.int p4)]) (st' := [.int p2, .ref p0]) bo_83_5_ca77c4 rfl ?_
  refine r_pI mx_83 li_83_7 fd_3_13 (Or.inl rfl) rfl h (fun M2 h => ?_)
  refine EV_stq mx_83 (pc' := 12) (L' := [some (.ref p0), some (.int p1), some (.int p2), some (.int p3), some (.int p4)]) (st' := [.int p3, .ref p0]) bo_83_10_42a704 rfl ?_
  refine r_pI mx_83 li_83_12 fd_3_16 (Or.inl rfl) rfl h (fun M3 h => ?_)
  refine EV_stq mx_83 (pc' := 18) (L' := [some (.ref p0), some (.int p1), some (.int p2), some (.int p3), some (.int p4)]) (st' := [.int p4, .ref p0]) bo_83_15_d45c32 rfl ?_
  refine r_pI mx_83 li_83_18 fd_3_19 (Or.inl rfl) rfl h (fun M4 h => ?_)
  obtain rfl := Option.some.inj h
  exact r_ret mx_83 li_83_21 rfl rfl
theorem e_x_configure {d : Nat} (hd : 1 ≤ d) (p0 : Nat) (p1 : Int32) (p2 : Int32) (p3 : Int32) (p4 : Int32) (M : Mem) (r : Int32 × Mem) (h : f_x_configure p0 p1 p2 p3 p4 M = some r) : EV d 84 0 (entL 6 [.ref p0, .int p1, .int p2, .int p3, .int p4]) [] M (some (.int r.1), r.2) := by
  show EV d 84 0 [some (.ref p0), some (.int p1), some (.int p2), some (.int p3), some (.int p4), none] [] M _
  unfold f_x_configure at h
  refine EV_stq mx_84 (pc' := 2) (L' := [some (.ref p0), some (.int p1), some (.int p2), some (.int p3), some (.int p4), none]) (st' := [.int (1 : Int32), .int p1]) bo_84_0_264884 rfl ?_
  refine h_lt h (fun h hc => ?_) (fun h hc => ?_)
  · refine r_icT mx_84 li_84_2 (by decide) rfl hc ?_
    refine EV_stq mx_84 (pc' := 23) (L' := [some (.ref p0), some (.int p1), some (.int p2), some (.int p3), some (.int p4), none]) (st' := [.int (-1000000002 : Int32)]) bo_84_21_46c79c rfl ?_
    obtain rfl := Option.some.inj h
    exact r_ret mx_84 li_84_23 rfl ro_int
  · refine r_icF mx_84 li_84_2 (by decide) hc ?_
    refine EV_stq mx_84 (pc' := 7) (L' := [some (.ref p0), some (.int p1), some (.int p2), some (.int p3), some (.int p4), none]) (st' := [.int (4 : Int32), .int p1]) bo_84_5_ca77c4 rfl ?_
    refine h_gt h (fun h hc => ?_) (fun h hc => ?_)
    · refine r_icT mx_84 li_84_7 (by decide) rfl hc ?_
      refine EV_stq mx_84 (pc' := 23) (L' := [some (.ref p0), some (.int p1), some (.int p2), some (.int p3), some (.int p4), none]) (st' := [.int (-1000000002 : Int32)]) bo_84_21_46c79c rfl ?_
      obtain rfl := Option.some.inj h
      exact r_ret mx_84 li_84_23 rfl ro_int
    · refine r_icF mx_84 li_84_7 (by decide) hc ?_
      refine EV_stq mx_84 (pc' := 12) (L' := [some (.ref p0), some (.int p1), some (.int p2), some (.int p3), some (.int p4), none]) (st' := [.int (1 : Int32), .int p2]) bo_84_10_42a704 rfl ?_
      refine h_lt h (fun h hc => ?_) (fun h hc => ?_)
      · refine r_icT mx_84 li_84_12 (by decide) rfl hc ?_
        refine EV_stq mx_84 (pc' := 23) (L' := [some (.ref p0), some (.int p1), some (.int p2), some (.int p3), some (.int p4), none]) (st' := [.int (-1000000002 : Int32)]) bo_84_21_46c79c rfl ?_
        obtain rfl := Option.some.inj h
        exact r_ret mx_84 li_84_23 rfl ro_int
      · refine r_icF mx_84 li_84_12 (by decide) hc ?_
        refine EV_stq mx_84 (pc' := 18) (L' := [some (.ref p0), some (.int p1), some (.int p2), some (.int p3), some (.int p4), none]) (st' := [.int (9 : Int32), .int p2]) bo_84_15_d45c32 rfl ?_
        refine h_le h (fun h hc => ?_) (fun h hc => ?_)
        · refine r_icT mx_84 li_84_18 (by decide) rfl hc ?_
          refine EV_stq mx_84 (pc' := 26) (L' := [some (.ref p0), some (.int p1), some (.int p2), some (.int p3), some (.int p4), none]) (st' := [.int (2 : Int32), .int p3]) bo_84_24_35ae4e rfl ?_
          refine h_lt h (fun h hc => ?_) (fun h hc => ?_)
          · refine r_icT mx_84 li_84_26 (by decide) rfl hc ?_
            refine EV_stq mx_84 (pc' := 48) (L' := [some (.ref p0), some (.int p1), some (.int p2), some (.int p3), some (.int p4), none]) (st' := [.int (-1000000002 : Int32)]) bo_84_46_4b02d4 rfl ?_
            obtain rfl := Option.some.inj h
            exact r_ret mx_84 li_84_48 rfl ro_int
          · refine r_icF mx_84 li_84_26 (by decide) hc ?_
            refine EV_stq mx_84 (pc' := 31) (L' := [some (.ref p0), some (.int p1), some (.int p2), some (.int p3), some (.int p4), none]) (st' := [.int (4 : Int32), .int p3]) bo_84_29_2746c1 rfl ?_
            refine h_gt h (fun h hc => ?_) (fun h hc => ?_)
            · refine r_icT mx_84 li_84_31 (by decide) rfl hc ?_
              refine EV_stq mx_84 (pc' := 48) (L' := [some (.ref p0), some (.int p1), some (.int p2), some (.int p3), some (.int p4), none]) (st' := [.int (-1000000002 : Int32)]) bo_84_46_4b02d4 rfl ?_
              obtain rfl := Option.some.inj h
              exact r_ret mx_84 li_84_48 rfl ro_int
            · refine r_icF mx_84 li_84_31 (by decide) hc ?_
              refine EV_stq mx_84 (pc' := 37) (L' := [some (.ref p0), some (.int p1), some (.int p2), some (.int p3), some (.int p4), none]) (st' := [.int (1 : Int32), .int p4]) bo_84_34_f27b23 rfl ?_
              refine h_lt h (fun h hc => ?_) (fun h hc => ?_)
              · refine r_icT mx_84 li_84_37 (by decide) rfl hc ?_
                refine EV_stq mx_84 (pc' := 48) (L' := [some (.ref p0), some (.int p1), some (.int p2), some (.int p3), some (.int p4), none]) (st' := [.int (-1000000002 : Int32)]) bo_84_46_4b02d4 rfl ?_
                obtain rfl := Option.some.inj h
                exact r_ret mx_84 li_84_48 rfl ro_int
              · refine r_icF mx_84 li_84_37 (by decide) hc ?_
                refine EV_stq mx_84 (pc' := 43) (L' := [some (.ref p0), some (.int p1), some (.int p2), some (.int p3), some (.int p4), none]) (st' := [.int (5 : Int32), .int p4]) bo_84_40_ddfaee rfl ?_
                refine h_le h (fun h hc => ?_) (fun h hc => ?_)
                · refine r_icT mx_84 li_84_43 (by decide) rfl hc ?_
                  refine EV_stq mx_84 (pc' := 50) (L' := [some (.ref p0), some (.int p1), some (.int p2), some (.int p3), some (.int p4), none]) (st' := [.ref p0]) bo_84_49_e052b7 rfl ?_
                  refine r_gA mx_84 li_84_50 fd_13_31 rfl h (fun a1 h => ?_)
                  refine r_gI mx_84 li_84_53 fd_13_83 ⟨by decide, by decide⟩ h (fun v2 h => ?_)
                  refine h_eq h (fun h hc => ?_) (fun h hc => ?_)
                  · refine r_ifT mx_84 li_84_56 (by decide) rfl hc ?_
                    refine EV_stq mx_84 (pc' := 63) (L' := [some (.ref p0), some (.int p1), some (.int p2), some (.int p3), some (.int p4), none]) (st' := [.ref p0]) bo_84_62_13a257 rfl ?_
                    refine r_gA mx_84 li_84_63 fd_13_31 rfl h (fun a3 h => ?_)
                    refine r_gA mx_84 li_84_66 fd_13_88 rfl h (fun a4 h => ?_)
                    refine h_ck h (fun hc h => ?_)
                    refine h_cI h (fun v6 M5 e h => ?_)
                    refine EV_call [.ref a4] [] mx_84 li_84_69 rfl rfl si_13_92 rfl (by decide) (by decide) (by omega) ma_82 rfl (Nat.le_of_ble_eq_true rfl) rfl rfl (Nat.le_of_ble_eq_true rfl) (rc_1 mt_at_82 rfl rfl (by decide) hc) (e_se_digits (by omega) a4 M _ e) ?_
                    show EV d 84 72 [some (.ref p0), some (.int p1), some (.int p2), some (.int p3), some (.int p4), none] [.int v6] M5 _
                    refine EV_stq mx_84 (pc' := 75) (L' := [some (.ref p0), some (.int p1), some (.int p2), some (.int p3), some (.int p4), some (.int v6)]) (st' := [.ref p0]) bo_84_72_9ed66b rfl ?_
                    refine r_gA mx_84 li_84_75 fd_13_31 rfl h (fun a7 h => ?_)
                    refine r_gA mx_84 li_84_78 fd_13_88 rfl h (fun a8 h => ?_)
                    refine EV_stq mx_84 (pc' := 86) (L' := [some (.ref p0), some (.int p1), some (.int p2), some (.int p3), some (.int p4), some (.int v6)]) (st' := [.int p4, .int p3, .int p2, .int p1, .ref a8]) bo_84_81_c5ce3b rfl ?_
                    refine h_ck h (fun hc h => ?_)
                    refine h_cV h (fun M9 e h => ?_)
                    refine EV_call [.ref a8, .int p1, .int p2, .int p3, .int p4] [] mx_84 li_84_86 rfl rfl si_13_97 rfl (by decide) (by decide) (by omega) ma_83 rfl (Nat.le_of_ble_eq_true rfl) rfl rfl (Nat.le_of_ble_eq_true rfl) (rc_1 mt_at_83 rfl rfl (by decide) hc) (e_se_change (by omega) a8 p1 p2 p3 p4 M5 _ e) ?_
                    show EV d 84 89 [some (.ref p0), some (.int p1), some (.int p2), some (.int p3), some (.int p4), some (.int v6)] [] M9 _
                    refine EV_stq mx_84 (pc' := 91) (L' := [some (.ref p0), some (.int p1), some (.int p2), some (.int p3), some (.int p4), some (.int v6)]) (st' := [.int v6]) bo_84_89_bbca9b rfl ?_
                    obtain rfl := Option.some.inj h
                    exact r_ret mx_84 li_84_91 rfl ro_int
                  · refine r_ifF mx_84 li_84_56 (by decide) hc ?_
                    refine EV_stq mx_84 (pc' := 61) (L' := [some (.ref p0), some (.int p1), some (.int p2), some (.int p3), some (.int p4), none]) (st' := [.int (-1000000004 : Int32)]) bo_84_59_8c3b95 rfl ?_
                    obtain rfl := Option.some.inj h
                    exact r_ret mx_84 li_84_61 rfl ro_int
                · refine r_icF mx_84 li_84_43 (by decide) hc ?_
                  refine EV_stq mx_84 (pc' := 48) (L' := [some (.ref p0), some (.int p1), some (.int p2), some (.int p3), some (.int p4), none]) (st' := [.int (-1000000002 : Int32)]) bo_84_46_4b02d4 rfl ?_
                  obtain rfl := Option.some.inj h
                  exact r_ret mx_84 li_84_48 rfl ro_int
        · refine r_icF mx_84 li_84_18 (by decide) hc ?_
          refine EV_stq mx_84 (pc' := 23) (L' := [some (.ref p0), some (.int p1), some (.int p2), some (.int p3), some (.int p4), none]) (st' := [.int (-1000000002 : Int32)]) bo_84_21_46c79c rfl ?_
          obtain rfl := Option.some.inj h
          exact r_ret mx_84 li_84_23 rfl ro_int
theorem e_m_configure {d : Nat} (hd : 1 ≤ d) (p0 : Nat) (p1 : Int32) (p2 : Int32) (p3 : Int32) (p4 : Int32) (M : Mem) (r : Int32 × Mem) (h : f_m_configure p0 p1 p2 p3 p4 M = some r) : EV d 85 0 (entL 6 [.ref p0, .int p1, .int p2, .int p3, .int p4]) [] M (some (.int r.1), r.2) := by
  show EV d 85 0 [some (.ref p0), some (.int p1), some (.int p2), some (.int p3), some (.int p4), none] [] M _
  unfold f_m_configure at h
  refine EV_stq mx_85 (pc' := 3) (L' := [some (.ref p0), some (.int p1), some (.int p2), some (.int p3), some (.int p4), none]) (st' := [.int (4 : Int32), .int (1 : Int32), .int p1]) bo_85_0_8b3750 rfl ?_
  refine h_cI h (fun v2 M1 e h => ?_)
  refine EV_call [.int p1, .int (1 : Int32), .int (4 : Int32)] [] mx_85 li_85_3 rfl rfl si_14_203 rfl (by decide) (by decide) (by omega) ma_29 rfl (Nat.le_of_ble_eq_true rfl) rfl rfl (Nat.le_of_ble_eq_true rfl) rfl (e_m_isIn (by omega) p1 (1 : Int32) (4 : Int32) M _ e) ?_
  show EV d 85 6 [some (.ref p0), some (.int p1), some (.int p2), some (.int p3), some (.int p4), none] [.int v2] M1 _
  refine h_eq h (fun h hc => ?_) (fun h hc => ?_)
  · refine r_ifT mx_85 li_85_6 (by decide) rfl hc ?_
    refine EV_stq mx_85 (pc' := 40) (L' := [some (.ref p0), some (.int p1), some (.int p2), some (.int p3), some (.int p4), none]) (st' := [.int (-1000000002 : Int32)]) bo_85_38_c8c763 rfl ?_
    obtain rfl := Option.some.inj h
    exact r_ret mx_85 li_85_40 rfl ro_int
  · refine r_ifF mx_85 li_85_6 (by decide) hc ?_
    refine EV_stq mx_85 (pc' := 13) (L' := [some (.ref p0), some (.int p1), some (.int p2), some (.int p3), some (.int p4), none]) (st' := [.int (9 : Int32), .int (1 : Int32), .int p2]) bo_85_9_94b225 rfl ?_
    refine h_cI h (fun v4 M3 e h => ?_)
    refine EV_call [.int p2, .int (1 : Int32), .int (9 : Int32)] [] mx_85 li_85_13 rfl rfl si_14_203 rfl (by decide) (by decide) (by omega) ma_29 rfl (Nat.le_of_ble_eq_true rfl) rfl rfl (Nat.le_of_ble_eq_true rfl) rfl (e_m_isIn (by omega) p2 (1 : Int32) (9 : Int32) M1 _ e) ?_
    show EV d 85 16 [some (.ref p0), some (.int p1), some (.int p2), some (.int p3), some (.int p4), none] [.int v4] M3 _
    refine h_eq h (fun h hc => ?_) (fun h hc => ?_)
    · refine r_ifT mx_85 li_85_16 (by decide) rfl hc ?_
      refine EV_stq mx_85 (pc' := 40) (L' := [some (.ref p0), some (.int p1), some (.int p2), some (.int p3), some (.int p4), none]) (st' := [.int (-1000000002 : Int32)]) bo_85_38_c8c763 rfl ?_
      obtain rfl := Option.some.inj h
      exact r_ret mx_85 li_85_40 rfl ro_int
    · refine r_ifF mx_85 li_85_16 (by decide) hc ?_
      refine EV_stq mx_85 (pc' := 22) (L' := [some (.ref p0), some (.int p1), some (.int p2), some (.int p3), some (.int p4), none]) (st' := [.int (4 : Int32), .int (2 : Int32), .int p3]) bo_85_19_7f125f rfl ?_
      refine h_cI h (fun v6 M5 e h => ?_)
      refine EV_call [.int p3, .int (2 : Int32), .int (4 : Int32)] [] mx_85 li_85_22 rfl rfl si_14_203 rfl (by decide) (by decide) (by omega) ma_29 rfl (Nat.le_of_ble_eq_true rfl) rfl rfl (Nat.le_of_ble_eq_true rfl) rfl (e_m_isIn (by omega) p3 (2 : Int32) (4 : Int32) M3 _ e) ?_
      show EV d 85 25 [some (.ref p0), some (.int p1), some (.int p2), some (.int p3), some (.int p4), none] [.int v6] M5 _
      refine h_eq h (fun h hc => ?_) (fun h hc => ?_)
      · refine r_ifT mx_85 li_85_25 (by decide) rfl hc ?_
        refine EV_stq mx_85 (pc' := 40) (L' := [some (.ref p0), some (.int p1), some (.int p2), some (.int p3), some (.int p4), none]) (st' := [.int (-1000000002 : Int32)]) bo_85_38_c8c763 rfl ?_
        obtain rfl := Option.some.inj h
        exact r_ret mx_85 li_85_40 rfl ro_int
      · refine r_ifF mx_85 li_85_25 (by decide) hc ?_
        refine EV_stq mx_85 (pc' := 32) (L' := [some (.ref p0), some (.int p1), some (.int p2), some (.int p3), some (.int p4), none]) (st' := [.int (5 : Int32), .int (1 : Int32), .int p4]) bo_85_28_5b3148 rfl ?_
        refine h_cI h (fun v8 M7 e h => ?_)
        refine EV_call [.int p4, .int (1 : Int32), .int (5 : Int32)] [] mx_85 li_85_32 rfl rfl si_14_203 rfl (by decide) (by decide) (by omega) ma_29 rfl (Nat.le_of_ble_eq_true rfl) rfl rfl (Nat.le_of_ble_eq_true rfl) rfl (e_m_isIn (by omega) p4 (1 : Int32) (5 : Int32) M5 _ e) ?_
        show EV d 85 35 [some (.ref p0), some (.int p1), some (.int p2), some (.int p3), some (.int p4), none] [.int v8] M7 _
        refine h_ne h (fun h hc => ?_) (fun h hc => ?_)
        · refine r_ifF mx_85 li_85_35 (by decide) hc ?_
          refine EV_stq mx_85 (pc' := 40) (L' := [some (.ref p0), some (.int p1), some (.int p2), some (.int p3), some (.int p4), none]) (st' := [.int (-1000000002 : Int32)]) bo_85_38_c8c763 rfl ?_
          obtain rfl := Option.some.inj h
          exact r_ret mx_85 li_85_40 rfl ro_int
        · refine r_ifT mx_85 li_85_35 (by decide) rfl hc ?_
          refine EV_stq mx_85 (pc' := 42) (L' := [some (.ref p0), some (.int p1), some (.int p2), some (.int p3), some (.int p4), none]) (st' := [.ref p0]) bo_85_41_45abaf rfl ?_
          refine r_gI mx_85 li_85_42 fd_14_259 ⟨by decide, by decide⟩ h (fun v9 h => ?_)
          refine h_eq h (fun h hc => ?_) (fun h hc => ?_)
          · refine r_ifT mx_85 li_85_45 (by decide) rfl hc ?_
            refine EV_stq mx_85 (pc' := 56) (L' := [some (.ref p0), some (.int p1), some (.int p2), some (.int p3), some (.int p4), none]) (st' := [.ref p0, .int (1000 : Int32)]) bo_85_52_ee2563 rfl ?_
            refine r_gI mx_85 li_85_56 fd_14_25 ⟨by decide, by decide⟩ h (fun v10 h => ?_)
            refine EV_stq mx_85 (pc' := 63) (L' := [some (.ref p0), some (.int p1), some (.int p2), some (.int p3), some (.int p4), none]) (st' := [.ref p0, .int (100 : Int32), .int ((1000 : Int32) * v10)]) bo_85_59_e1a4dd rfl ?_
            refine r_gI mx_85 li_85_63 fd_14_29 ⟨by decide, by decide⟩ h (fun v11 h => ?_)
            refine EV_stq mx_85 (pc' := 71) (L' := [some (.ref p0), some (.int p1), some (.int p2), some (.int p3), some (.int p4), none]) (st' := [.ref p0, .int (10 : Int32), .int (((1000 : Int32) * v10) + ((100 : Int32) * v11))]) bo_85_66_b08ba8 rfl ?_
            refine r_gI mx_85 li_85_71 fd_14_32 ⟨by decide, by decide⟩ h (fun v12 h => ?_)
            refine EV_stq mx_85 (pc' := 77) (L' := [some (.ref p0), some (.int p1), some (.int p2), some (.int p3), some (.int p4), none]) (st' := [.ref p0, .int ((((1000 : Int32) * v10) + ((100 : Int32) * v11)) + ((10 : Int32) * v12))]) bo_85_74_b771ca rfl ?_
            refine r_gI mx_85 li_85_77 fd_14_35 ⟨by decide, by decide⟩ h (fun v13 h => ?_)
            refine EV_stq mx_85 (pc' := 85) (L' := [some (.ref p0), some (.int p1), some (.int p2), some (.int p3), some (.int p4), some (.int (((((1000 : Int32) * v10) + ((100 : Int32) * v11)) + ((10 : Int32) * v12)) + v13))]) (st' := [.int p1, .ref p0]) bo_85_80_dd6aee rfl ?_
            refine r_pI mx_85 li_85_85 fd_14_25 (Or.inl rfl) rfl h (fun M14 h => ?_)
            refine EV_stq mx_85 (pc' := 90) (L' := [some (.ref p0), some (.int p1), some (.int p2), some (.int p3), some (.int p4), some (.int (((((1000 : Int32) * v10) + ((100 : Int32) * v11)) + ((10 : Int32) * v12)) + v13))]) (st' := [.int p2, .ref p0]) bo_85_88_700d2f rfl ?_
            refine r_pI mx_85 li_85_90 fd_14_29 (Or.inl rfl) rfl h (fun M15 h => ?_)
            refine EV_stq mx_85 (pc' := 95) (L' := [some (.ref p0), some (.int p1), some (.int p2), some (.int p3), some (.int p4), some (.int (((((1000 : Int32) * v10) + ((100 : Int32) * v11)) + ((10 : Int32) * v12)) + v13))]) (st' := [.int p3, .ref p0]) bo_85_93_aa3b03 rfl ?_
            refine r_pI mx_85 li_85_95 fd_14_32 (Or.inl rfl) rfl h (fun M16 h => ?_)
            refine EV_stq mx_85 (pc' := 101) (L' := [some (.ref p0), some (.int p1), some (.int p2), some (.int p3), some (.int p4), some (.int (((((1000 : Int32) * v10) + ((100 : Int32) * v11)) + ((10 : Int32) * v12)) + v13))]) (st' := [.int p4, .ref p0]) bo_85_98_51a86b rfl ?_
            refine r_pI mx_85 li_85_101 fd_14_35 (Or.inl rfl) rfl h (fun M17 h => ?_)
            refine EV_stq mx_85 (pc' := 106) (L' := [some (.ref p0), some (.int p1), some (.int p2), some (.int p3), some (.int p4), some (.int (((((1000 : Int32) * v10) + ((100 : Int32) * v11)) + ((10 : Int32) * v12)) + v13))]) (st' := [.int (((((1000 : Int32) * v10) + ((100 : Int32) * v11)) + ((10 : Int32) * v12)) + v13)]) bo_85_104_a38d21 rfl ?_
            obtain rfl := Option.some.inj h
            exact r_ret mx_85 li_85_106 rfl ro_int
          · refine r_ifF mx_85 li_85_45 (by decide) hc ?_
            refine EV_stq mx_85 (pc' := 51) (L' := [some (.ref p0), some (.int p1), some (.int p2), some (.int p3), some (.int p4), none]) (st' := [.int (-1000000004 : Int32)]) bo_85_48_04c55a rfl ?_
            obtain rfl := Option.some.inj h
            exact r_ret mx_85 li_85_51 rfl ro_int
theorem e_rc_add {d : Nat} (hd : 0 ≤ d) (p0 : Nat) (p1 : Int32) (p2 : Int32) (p3 : Int32) (M : Mem) (r : Mem) (h : f_rc_add p0 p1 p2 p3 M = some r) : EV d 86 0 (entL 5 [.ref p0, .int p1, .int p2, .int p3]) [] M (none, r) := by
  show EV d 86 0 [some (.ref p0), some (.int p1), some (.int p2), some (.int p3), none] [] M _
  unfold f_rc_add at h
  refine EV_stq mx_86 (pc' := 1) (L' := [some (.ref p0), some (.int p1), some (.int p2), some (.int p3), none]) (st' := [.ref p0]) bo_86_0_8d5162 rfl ?_
  refine r_gI mx_86 li_86_1 fd_4_23 ⟨by decide, by decide⟩ h (fun v1 h => ?_)
  refine EV_stq mx_86 (pc' := 5) (L' := [some (.ref p0), some (.int p1), some (.int p2), some (.int p3), none]) (st' := [.ref p0, .int v1]) bo_86_4_e962e2 rfl ?_
  refine r_gI mx_86 li_86_5 fd_4_19 ⟨by decide, by decide⟩ h (fun v2 h => ?_)
  refine h_le h (fun h hc => ?_) (fun h hc => ?_)
  · refine r_icT mx_86 li_86_8 (by decide) rfl hc ?_
    refine EV_stq mx_86 (pc' := 13) (L' := [some (.ref p0), some (.int p1), some (.int p2), some (.int p3), none]) (st' := [.ref p0]) bo_86_12_d0d0c9 rfl ?_
    refine r_gI mx_86 li_86_13 fd_4_26 ⟨by decide, by decide⟩ h (fun v3 h => ?_)
    refine EV_stq mx_86 (pc' := 17) (L' := [some (.ref p0), some (.int p1), some (.int p2), some (.int p3), none]) (st' := [.ref p0, .int v3]) bo_86_16_862b1a rfl ?_
    refine r_gI mx_86 li_86_17 fd_4_23 ⟨by decide, by decide⟩ h (fun v4 h => ?_)
    refine EV_stq mx_86 (pc' := 22) (L' := [some (.ref p0), some (.int p1), some (.int p2), some (.int p3), none]) (st' := [.ref p0, .int (v3 + v4)]) bo_86_20_aa2fda rfl ?_
    refine r_gI mx_86 li_86_22 fd_4_19 ⟨by decide, by decide⟩ h (fun v5 h => ?_)
    refine EV_stq mx_86 (pc' := 29) (L' := [some (.ref p0), some (.int p1), some (.int p2), some (.int p3), some (.int ((v3 + v4) &&& v5))]) (st' := [.ref p0]) bo_86_25_a40845 rfl ?_
    refine r_gA mx_86 li_86_29 fd_4_7 rfl h (fun a6 h => ?_)
    refine EV_stq mx_86 (pc' := 35) (L' := [some (.ref p0), some (.int p1), some (.int p2), some (.int p3), some (.int ((v3 + v4) &&& v5))]) (st' := [.int p1, .int ((v3 + v4) &&& v5), .ref a6]) bo_86_32_e72a93 rfl ?_
    refine r_sI mx_86 li_86_35 h (fun M7 h => ?_)
    refine EV_stq mx_86 (pc' := 37) (L' := [some (.ref p0), some (.int p1), some (.int p2), some (.int p3), some (.int ((v3 + v4) &&& v5))]) (st' := [.ref p0]) bo_86_36_befed3 rfl ?_
    refine r_gA mx_86 li_86_37 fd_4_13 rfl h (fun a8 h => ?_)
    refine EV_stq mx_86 (pc' := 43) (L' := [some (.ref p0), some (.int p1), some (.int p2), some (.int p3), some (.int ((v3 + v4) &&& v5))]) (st' := [.int p2, .int ((v3 + v4) &&& v5), .ref a8]) bo_86_40_ddfaee rfl ?_
    refine r_sI mx_86 li_86_43 h (fun M9 h => ?_)
    refine EV_stq mx_86 (pc' := 45) (L' := [some (.ref p0), some (.int p1), some (.int p2), some (.int p3), some (.int ((v3 + v4) &&& v5))]) (st' := [.ref p0]) bo_86_44_56c0aa rfl ?_
    refine r_gA mx_86 li_86_45 fd_4_16 rfl h (fun a10 h => ?_)
    refine EV_stq mx_86 (pc' := 51) (L' := [some (.ref p0), some (.int p1), some (.int p2), some (.int p3), some (.int ((v3 + v4) &&& v5))]) (st' := [.int p3, .int ((v3 + v4) &&& v5), .ref a10]) bo_86_48_ef5aec rfl ?_
    refine r_sI mx_86 li_86_51 h (fun M11 h => ?_)
    refine EV_stq mx_86 (pc' := 54) (L' := [some (.ref p0), some (.int p1), some (.int p2), some (.int p3), some (.int ((v3 + v4) &&& v5))]) (st' := [.ref p0, .ref p0]) bo_86_52_9f6391 rfl ?_
    refine r_gI mx_86 li_86_54 fd_4_23 ⟨by decide, by decide⟩ h (fun v12 h => ?_)
    refine EV_stq mx_86 (pc' := 59) (L' := [some (.ref p0), some (.int p1), some (.int p2), some (.int p3), some (.int ((v3 + v4) &&& v5))]) (st' := [.int (v12 + (1 : Int32)), .ref p0]) bo_86_57_1292c4 rfl ?_
    refine r_pI mx_86 li_86_59 fd_4_23 (Or.inl rfl) rfl h (fun M13 h => ?_)
    obtain rfl := Option.some.inj h
    exact r_ret mx_86 li_86_62 rfl rfl
  · refine r_icF mx_86 li_86_8 (by decide) hc ?_
    obtain rfl := Option.some.inj h
    exact r_ret mx_86 li_86_11 rfl rfl
theorem e_x_push {d : Nat} (hd : 1 ≤ d) (p0 : Nat) (p1 : Int32) (p2 : Int32) (M : Mem) (r : Int32 × Mem) (h : f_x_push p0 p1 p2 M = some r) : EV d 87 0 (entL 3 [.ref p0, .int p1, .int p2]) [] M (some (.int r.1), r.2) := by
  show EV d 87 0 [some (.ref p0), some (.int p1), some (.int p2)] [] M _
  unfold f_x_push at h
  refine EV_stq mx_87 (pc' := 1) (L' := [some (.ref p0), some (.int p1), some (.int p2)]) (st' := [.int p1]) bo_87_0_8d5162 rfl ?_
  refine h_lt h (fun h hc => ?_) (fun h hc => ?_)
  · refine r_ifT mx_87 li_87_1 (by decide) rfl hc ?_
    refine EV_stq mx_87 (pc' := 24) (L' := [some (.ref p0), some (.int p1), some (.int p2)]) (st' := [.int (-1000000002 : Int32)]) bo_87_22_60ac31 rfl ?_
    obtain rfl := Option.some.inj h
    exact r_ret mx_87 li_87_24 rfl ro_int
  · refine r_ifF mx_87 li_87_1 (by decide) hc ?_
    refine EV_stq mx_87 (pc' := 7) (L' := [some (.ref p0), some (.int p1), some (.int p2)]) (st' := [.int (16 : Int32), .int p1]) bo_87_4_40e659 rfl ?_
    refine h_ge h (fun h hc => ?_) (fun h hc => ?_)
    · refine r_icT mx_87 li_87_7 (by decide) rfl hc ?_
      refine EV_stq mx_87 (pc' := 24) (L' := [some (.ref p0), some (.int p1), some (.int p2)]) (st' := [.int (-1000000002 : Int32)]) bo_87_22_60ac31 rfl ?_
      obtain rfl := Option.some.inj h
      exact r_ret mx_87 li_87_24 rfl ro_int
    · refine r_icF mx_87 li_87_7 (by decide) hc ?_
      refine EV_stq mx_87 (pc' := 13) (L' := [some (.ref p0), some (.int p1), some (.int p2)]) (st' := [.int (-99 : Int32), .int p2]) bo_87_10_42a704 rfl ?_
      refine h_lt h (fun h hc => ?_) (fun h hc => ?_)
      · refine r_icT mx_87 li_87_13 (by decide) rfl hc ?_
        refine EV_stq mx_87 (pc' := 24) (L' := [some (.ref p0), some (.int p1), some (.int p2)]) (st' := [.int (-1000000002 : Int32)]) bo_87_22_60ac31 rfl ?_
        obtain rfl := Option.some.inj h
        exact r_ret mx_87 li_87_24 rfl ro_int
      · refine r_icF mx_87 li_87_13 (by decide) hc ?_
        refine EV_stq mx_87 (pc' := 19) (L' := [some (.ref p0), some (.int p1), some (.int p2)]) (st' := [.int (99 : Int32), .int p2]) bo_87_16_f4f9fa rfl ?_
        refine h_le h (fun h hc => ?_) (fun h hc => ?_)
        · refine r_icT mx_87 li_87_19 (by decide) rfl hc ?_
          refine EV_stq mx_87 (pc' := 26) (L' := [some (.ref p0), some (.int p1), some (.int p2)]) (st' := [.ref p0]) bo_87_25_1858f6 rfl ?_
          refine r_gA mx_87 li_87_26 fd_13_31 rfl h (fun a1 h => ?_)
          refine r_gA mx_87 li_87_29 fd_13_101 rfl h (fun a2 h => ?_)
          refine r_gI mx_87 li_87_32 fd_13_105 ⟨by decide, by decide⟩ h (fun v3 h => ?_)
          refine EV_stq mx_87 (pc' := 37) (L' := [some (.ref p0), some (.int p1), some (.int p2)]) (st' := [.int (60 : Int32), .int v3]) bo_87_35_a976ef rfl ?_
          refine h_lt h (fun h hc => ?_) (fun h hc => ?_)
          · refine r_icT mx_87 li_87_37 (by decide) rfl hc ?_
            refine EV_stq mx_87 (pc' := 44) (L' := [some (.ref p0), some (.int p1), some (.int p2)]) (st' := [.ref p0]) bo_87_43_d85b47 rfl ?_
            refine r_gA mx_87 li_87_44 fd_13_31 rfl h (fun a4 h => ?_)
            refine r_gA mx_87 li_87_47 fd_13_101 rfl h (fun a5 h => ?_)
            refine EV_stq mx_87 (pc' := 53) (L' := [some (.ref p0), some (.int p1), some (.int p2)]) (st' := [.int (0 : Int32), .int p2, .int p1, .ref a5]) bo_87_50_678706 rfl ?_
            refine h_ck h (fun hc h => ?_)
            refine h_cV h (fun M6 e h => ?_)
            refine EV_call [.ref a5, .int p1, .int p2, .int (0 : Int32)] [] mx_87 li_87_53 rfl rfl si_13_110 rfl (by decide) (by decide) (by omega) ma_86 rfl (Nat.le_of_ble_eq_true rfl) rfl rfl (Nat.le_of_ble_eq_true rfl) (rc_1 mt_at_86 rfl rfl (by decide) hc) (e_rc_add (by omega) a5 p1 p2 (0 : Int32) M _ e) ?_
            show EV d 87 56 [some (.ref p0), some (.int p1), some (.int p2)] [] M6 _
            refine EV_stq mx_87 (pc' := 57) (L' := [some (.ref p0), some (.int p1), some (.int p2)]) (st' := [.ref p0]) bo_87_56_350148 rfl ?_
            refine r_gA mx_87 li_87_57 fd_13_31 rfl h (fun a7 h => ?_)
            refine r_gA mx_87 li_87_60 fd_13_101 rfl h (fun a8 h => ?_)
            refine r_gI mx_87 li_87_63 fd_13_105 ⟨by decide, by decide⟩ h (fun v9 h => ?_)
            obtain rfl := Option.some.inj h
            exact r_ret mx_87 li_87_66 rfl ro_int
          · refine r_icF mx_87 li_87_37 (by decide) hc ?_
            refine EV_stq mx_87 (pc' := 42) (L' := [some (.ref p0), some (.int p1), some (.int p2)]) (st' := [.int (-1000000003 : Int32)]) bo_87_40_d0cc5b rfl ?_
            obtain rfl := Option.some.inj h
            exact r_ret mx_87 li_87_42 rfl ro_int
        · refine r_icF mx_87 li_87_19 (by decide) hc ?_
          refine EV_stq mx_87 (pc' := 24) (L' := [some (.ref p0), some (.int p1), some (.int p2)]) (st' := [.int (-1000000002 : Int32)]) bo_87_22_60ac31 rfl ?_
          obtain rfl := Option.some.inj h
          exact r_ret mx_87 li_87_24 rfl ro_int
theorem e_m_push {d : Nat} (hd : 1 ≤ d) (p0 : Nat) (p1 : Int32) (p2 : Int32) (M : Mem) (r : Int32 × Mem) (h : f_m_push p0 p1 p2 M = some r) : EV d 88 0 (entL 3 [.ref p0, .int p1, .int p2]) [] M (some (.int r.1), r.2) := by
  show EV d 88 0 [some (.ref p0), some (.int p1), some (.int p2)] [] M _
  unfold f_m_push at h
  refine EV_stq mx_88 (pc' := 4) (L' := [some (.ref p0), some (.int p1), some (.int p2)]) (st' := [.int (15 : Int32), .int (0 : Int32), .int p1]) bo_88_0_8b3750 rfl ?_
  refine h_cI h (fun v2 M1 e h => ?_)
  refine EV_call [.int p1, .int (0 : Int32), .int (15 : Int32)] [] mx_88 li_88_4 rfl rfl si_14_203 rfl (by decide) (by decide) (by omega) ma_29 rfl (Nat.le_of_ble_eq_true rfl) rfl rfl (Nat.le_of_ble_eq_true rfl) rfl (e_m_isIn (by omega) p1 (0 : Int32) (15 : Int32) M _ e) ?_
  show EV d 88 7 [some (.ref p0), some (.int p1), some (.int p2)] [.int v2] M1 _
  refine h_eq h (fun h hc => ?_) (fun h hc => ?_)
  · refine r_ifT mx_88 li_88_7 (by decide) rfl hc ?_
    refine EV_stq mx_88 (pc' := 23) (L' := [some (.ref p0), some (.int p1), some (.int p2)]) (st' := [.int (-1000000002 : Int32)]) bo_88_21_46c79c rfl ?_
    obtain rfl := Option.some.inj h
    exact r_ret mx_88 li_88_23 rfl ro_int
  · refine r_ifF mx_88 li_88_7 (by decide) hc ?_
    refine EV_stq mx_88 (pc' := 15) (L' := [some (.ref p0), some (.int p1), some (.int p2)]) (st' := [.int (99 : Int32), .int (-99 : Int32), .int p2]) bo_88_10_be432a rfl ?_
    refine h_cI h (fun v4 M3 e h => ?_)
    refine EV_call [.int p2, .int (-99 : Int32), .int (99 : Int32)] [] mx_88 li_88_15 rfl rfl si_14_203 rfl (by decide) (by decide) (by omega) ma_29 rfl (Nat.le_of_ble_eq_true rfl) rfl rfl (Nat.le_of_ble_eq_true rfl) rfl (e_m_isIn (by omega) p2 (-99 : Int32) (99 : Int32) M1 _ e) ?_
    show EV d 88 18 [some (.ref p0), some (.int p1), some (.int p2)] [.int v4] M3 _
    refine h_ne h (fun h hc => ?_) (fun h hc => ?_)
    · refine r_ifF mx_88 li_88_18 (by decide) hc ?_
      refine EV_stq mx_88 (pc' := 23) (L' := [some (.ref p0), some (.int p1), some (.int p2)]) (st' := [.int (-1000000002 : Int32)]) bo_88_21_46c79c rfl ?_
      obtain rfl := Option.some.inj h
      exact r_ret mx_88 li_88_23 rfl ro_int
    · refine r_ifT mx_88 li_88_18 (by decide) rfl hc ?_
      refine EV_stq mx_88 (pc' := 25) (L' := [some (.ref p0), some (.int p1), some (.int p2)]) (st' := [.ref p0]) bo_88_24_99aa1d rfl ?_
      refine r_gI mx_88 li_88_25 fd_14_275 ⟨by decide, by decide⟩ h (fun v5 h => ?_)
      refine EV_stq mx_88 (pc' := 30) (L' := [some (.ref p0), some (.int p1), some (.int p2)]) (st' := [.int (60 : Int32), .int v5]) bo_88_28_f39cd0 rfl ?_
      refine h_ne h (fun h hc => ?_) (fun h hc => ?_)
      · refine r_icF mx_88 li_88_30 (by decide) hc ?_
        refine EV_stq mx_88 (pc' := 35) (L' := [some (.ref p0), some (.int p1), some (.int p2)]) (st' := [.int (-1000000003 : Int32)]) bo_88_33_1dc721 rfl ?_
        obtain rfl := Option.some.inj h
        exact r_ret mx_88 li_88_35 rfl ro_int
      · refine r_icT mx_88 li_88_30 (by decide) rfl hc ?_
        refine EV_stq mx_88 (pc' := 37) (L' := [some (.ref p0), some (.int p1), some (.int p2)]) (st' := [.ref p0]) bo_88_36_befed3 rfl ?_
        refine r_gA mx_88 li_88_37 fd_14_38 rfl h (fun a6 h => ?_)
        refine EV_stq mx_88 (pc' := 41) (L' := [some (.ref p0), some (.int p1), some (.int p2)]) (st' := [.ref p0, .ref a6]) bo_88_40_d0cc5b rfl ?_
        refine r_gI mx_88 li_88_41 fd_14_275 ⟨by decide, by decide⟩ h (fun v7 h => ?_)
        refine EV_stq mx_88 (pc' := 45) (L' := [some (.ref p0), some (.int p1), some (.int p2)]) (st' := [.int p1, .int v7, .ref a6]) bo_88_44_56c0aa rfl ?_
        refine r_sI mx_88 li_88_45 h (fun M8 h => ?_)
        refine EV_stq mx_88 (pc' := 47) (L' := [some (.ref p0), some (.int p1), some (.int p2)]) (st' := [.ref p0]) bo_88_46_4b02d4 rfl ?_
        refine r_gA mx_88 li_88_47 fd_14_41 rfl h (fun a9 h => ?_)
        refine EV_stq mx_88 (pc' := 51) (L' := [some (.ref p0), some (.int p1), some (.int p2)]) (st' := [.ref p0, .ref a9]) bo_88_50_8a8783 rfl ?_
        refine r_gI mx_88 li_88_51 fd_14_275 ⟨by decide, by decide⟩ h (fun v10 h => ?_)
        refine EV_stq mx_88 (pc' := 55) (L' := [some (.ref p0), some (.int p1), some (.int p2)]) (st' := [.int p2, .int v10, .ref a9]) bo_88_54_02ca38 rfl ?_
        refine r_sI mx_88 li_88_55 h (fun M11 h => ?_)
        refine EV_stq mx_88 (pc' := 58) (L' := [some (.ref p0), some (.int p1), some (.int p2)]) (st' := [.ref p0, .ref p0]) bo_88_56_ba4435 rfl ?_
        refine r_gI mx_88 li_88_58 fd_14_275 ⟨by decide, by decide⟩ h (fun v12 h => ?_)
        refine EV_stq mx_88 (pc' := 63) (L' := [some (.ref p0), some (.int p1), some (.int p2)]) (st' := [.int (v12 + (1 : Int32)), .ref p0]) bo_88_61_cd5945 rfl ?_
        refine r_pI mx_88 li_88_63 fd_14_275 (Or.inl rfl) rfl h (fun M13 h => ?_)
        refine EV_stq mx_88 (pc' := 67) (L' := [some (.ref p0), some (.int p1), some (.int p2)]) (st' := [.ref p0]) bo_88_66_831ba3 rfl ?_
        refine r_gI mx_88 li_88_67 fd_14_275 ⟨by decide, by decide⟩ h (fun v14 h => ?_)
        obtain rfl := Option.some.inj h
        exact r_ret mx_88 li_88_70 rfl ro_int
theorem e_ch_isEmpty {d : Nat} (hd : 0 ≤ d) (p0 : Nat) (M : Mem) (r : Int32 × Mem) (h : f_ch_isEmpty p0 M = some r) : EV d 89 0 (entL 1 [.ref p0]) [] M (some (.int r.1), r.2) := by
  show EV d 89 0 [some (.ref p0)] [] M _
  unfold f_ch_isEmpty at h
  refine EV_stq mx_89 (pc' := 1) (L' := [some (.ref p0)]) (st' := [.ref p0]) bo_89_0_8d5162 rfl ?_
  refine r_gI mx_89 li_89_1 fd_9_26 ⟨by decide, by decide⟩ h (fun v1 h => ?_)
  refine h_ne h (fun h hc => ?_) (fun h hc => ?_)
  · refine r_ifF mx_89 li_89_4 (by decide) hc ?_
    refine EV_stq mx_89 (pc' := 8) (L' := [some (.ref p0)]) (st' := [.ref p0]) bo_89_7_9b264f rfl ?_
    refine r_gI mx_89 li_89_8 fd_9_35 ⟨by decide, by decide⟩ h (fun v2 h => ?_)
    refine h_ne h (fun h hc => ?_) (fun h hc => ?_)
    · refine r_ifF mx_89 li_89_11 (by decide) hc ?_
      refine EV_stq mx_89 (pc' := 19) (L' := [some (.ref p0)]) (st' := [.int (1 : Int32)]) bo_89_14_4d7356 rfl ?_
      obtain rfl := Option.some.inj h
      exact r_ret mx_89 li_89_19 rfl (ro_nar (t := .boolean) (by decide) rfl)
    · refine r_ifT mx_89 li_89_11 (by decide) rfl hc ?_
      refine EV_stq mx_89 (pc' := 19) (L' := [some (.ref p0)]) (st' := [.int (0 : Int32)]) bo_89_18_2b31d8 rfl ?_
      obtain rfl := Option.some.inj h
      exact r_ret mx_89 li_89_19 rfl (ro_nar (t := .boolean) (by decide) rfl)
  · refine r_ifT mx_89 li_89_4 (by decide) rfl hc ?_
    refine EV_stq mx_89 (pc' := 19) (L' := [some (.ref p0)]) (st' := [.int (0 : Int32)]) bo_89_18_2b31d8 rfl ?_
    obtain rfl := Option.some.inj h
    exact r_ret mx_89 li_89_19 rfl (ro_nar (t := .boolean) (by decide) rfl)
theorem e_sm_sizeOf {d : Nat} (hd : 1 ≤ d) (p0 : Nat) (p1 : Int32) (M : Mem) (r : Int32 × Mem) (h : f_sm_sizeOf p0 p1 M = some r) : EV d 90 0 (entL 3 [.ref p0, .int p1]) [] M (some (.int r.1), r.2) := by
  show EV d 90 0 [some (.ref p0), some (.int p1), none] [] M _
  unfold f_sm_sizeOf at h
  refine EV_stq mx_90 (pc' := 2) (L' := [some (.ref p0), some (.int p1), none]) (st' := [.int p1, .ref p0]) bo_90_0_264884 rfl ?_
  refine h_ck h (fun hc h => ?_)
  refine h_cR h (fun o2 M1 e h => ?_)
  refine EV_call [.ref p0, .int p1] [] mx_90 li_90_2 rfl rfl si_10_54 rfl (by decide) (by decide) (by omega) ma_56 rfl (Nat.le_of_ble_eq_true rfl) rfl rfl (Nat.le_of_ble_eq_true rfl) (rc_1 mt_at_56 rfl rfl (by decide) hc) (e_sm_operatorAt (by omega) p0 p1 M _ e) ?_
  refine h_onR (G := fun o => EV d 90 5 [some (.ref p0), some (.int p1), none] [rfv o] M1 _) h (fun h => ?_) (fun a3 h => ?_)
  · refine EV_stq mx_90 (pc' := 18) (L' := [some (.ref p0), some (.int p1), some (.null)]) (st' := [.int (0 : Int32)]) bo_90_5_a49024 rfl ?_
    obtain rfl := Option.some.inj h
    exact r_ret mx_90 li_90_18 rfl ro_int
  · refine EV_stq mx_90 (pc' := 15) (L' := [some (.ref p0), some (.int p1), some (.ref a3)]) (st' := [.ref a3]) bo_90_5_10cc4b rfl ?_
    refine r_gI mx_90 li_90_15 fd_10_58 ⟨by decide, by decide⟩ h (fun v4 h => ?_)
    obtain rfl := Option.some.inj h
    exact r_ret mx_90 li_90_18 rfl ro_int
theorem e_sm_instanceAt {d : Nat} (hd : 1 ≤ d) (p0 : Nat) (p1 : Int32) (p2 : Int32) (M : Mem) (r : Option Nat × Mem) (h : f_sm_instanceAt p0 p1 p2 M = some r) : EV d 91 0 (entL 4 [.ref p0, .int p1, .int p2]) [] M (some (rfv r.1), r.2) := by
  show EV d 91 0 [some (.ref p0), some (.int p1), some (.int p2), none] [] M _
  unfold f_sm_instanceAt at h
  refine EV_stq mx_91 (pc' := 2) (L' := [some (.ref p0), some (.int p1), some (.int p2), none]) (st' := [.int p1, .ref p0]) bo_91_0_264884 rfl ?_
  refine h_ck h (fun hc h => ?_)
  refine h_cR h (fun o2 M1 e h => ?_)
  refine EV_call [.ref p0, .int p1] [] mx_91 li_91_2 rfl rfl si_10_54 rfl (by decide) (by decide) (by omega) ma_56 rfl (Nat.le_of_ble_eq_true rfl) rfl rfl (Nat.le_of_ble_eq_true rfl) (rc_1 mt_at_56 rfl rfl (by decide) hc) (e_sm_operatorAt (by omega) p0 p1 M _ e) ?_
  refine h_onR (G := fun o => EV d 91 5 [some (.ref p0), some (.int p1), some (.int p2), none] [rfv o] M1 _) h (fun h => ?_) (fun a3 h => ?_)
  · refine EV_stq mx_91 (pc' := 32) (L' := [some (.ref p0), some (.int p1), some (.int p2), some (.null)]) (st' := [.null]) bo_91_5_cae9af rfl ?_
    obtain rfl := Option.some.inj h
    exact r_ret mx_91 li_91_32 rfl rfl
  · refine EV_stq mx_91 (pc' := 11) (L' := [some (.ref p0), some (.int p1), some (.int p2), some (.ref a3)]) (st' := [.int p2]) bo_91_5_556fca rfl ?_
    refine h_lt h (fun h hc => ?_) (fun h hc => ?_)
    · refine r_ifT mx_91 li_91_11 (by decide) rfl hc ?_
      refine EV_stq mx_91 (pc' := 32) (L' := [some (.ref p0), some (.int p1), some (.int p2), some (.ref a3)]) (st' := [.null]) bo_91_31_c379e3 rfl ?_
      obtain rfl := Option.some.inj h
      exact r_ret mx_91 li_91_32 rfl rfl
    · refine r_ifF mx_91 li_91_11 (by decide) hc ?_
      refine EV_stq mx_91 (pc' := 16) (L' := [some (.ref p0), some (.int p1), some (.int p2), some (.ref a3)]) (st' := [.ref a3, .int p2]) bo_91_14_4d7356 rfl ?_
      refine r_gI mx_91 li_91_16 fd_10_58 ⟨by decide, by decide⟩ h (fun v4 h => ?_)
      refine h_ge h (fun h hc => ?_) (fun h hc => ?_)
      · refine r_icT mx_91 li_91_19 (by decide) rfl hc ?_
        refine EV_stq mx_91 (pc' := 32) (L' := [some (.ref p0), some (.int p1), some (.int p2), some (.ref a3)]) (st' := [.null]) bo_91_31_c379e3 rfl ?_
        obtain rfl := Option.some.inj h
        exact r_ret mx_91 li_91_32 rfl rfl
      · refine r_icF mx_91 li_91_19 (by decide) hc ?_
        refine EV_stq mx_91 (pc' := 24) (L' := [some (.ref p0), some (.int p1), some (.int p2), some (.ref a3)]) (st' := [.ref a3, .int p2]) bo_91_22_13b32e rfl ?_
        refine r_gA mx_91 li_91_24 fd_10_61 rfl h (fun a5 h => ?_)
        refine r_aN mx_91 li_91_27 h (fun v6 h => ?_)
        refine h_lt h (fun h hc => ?_) (fun h hc => ?_)
        · refine r_icT mx_91 li_91_28 (by decide) rfl hc ?_
          refine EV_stq mx_91 (pc' := 34) (L' := [some (.ref p0), some (.int p1), some (.int p2), some (.ref a3)]) (st' := [.ref a3]) bo_91_33_1dc721 rfl ?_
          refine r_gA mx_91 li_91_34 fd_10_61 rfl h (fun a7 h => ?_)
          refine EV_stq mx_91 (pc' := 38) (L' := [some (.ref p0), some (.int p1), some (.int p2), some (.ref a3)]) (st' := [.int p2, .ref a7]) bo_91_37_a21c9f rfl ?_
          refine r_aA mx_91 li_91_38 h (fun a8 h => ?_)
          obtain rfl := Option.some.inj h
          exact r_ret mx_91 li_91_39 rfl rfl
        · refine r_icF mx_91 li_91_28 (by decide) hc ?_
          refine EV_stq mx_91 (pc' := 32) (L' := [some (.ref p0), some (.int p1), some (.int p2), some (.ref a3)]) (st' := [.null]) bo_91_31_c379e3 rfl ?_
          obtain rfl := Option.some.inj h
          exact r_ret mx_91 li_91_32 rfl rfl
theorem e_sm_recordsInLists_51 {d : Nat} (hd : 2 ≤ d) (k4 : Nat → Int32 → Int32 → Mem → Option (Int32 × Mem)) (hk4 : ∀ l0 l1 l2 M r, k4 l0 l1 l2 M = some r → EV d 92 4 [some (.ref l0), some (.int l1), some (.int l2), none, none] [] M (some (.int r.1), r.2)) (k16 : Nat → Int32 → Int32 → Int32 → Mem → Option (Int32 × Mem)) (hk16 : ∀ l0 l1 l2 l3 M r, k16 l0 l1 l2 l3 M = some r → EV d 92 16 [some (.ref l0), some (.int l1), some (.int l2), some (.int l3), none] [] M (some (.int r.1), r.2)) (l0 : Nat) (l2 : Int32) (l3 : Int32) (s0 : Int32) (s1 : Int32) (M : Mem) (r : Int32 × Mem) (h : f_sm_recordsInLists_51 k4 k16 l0 l2 l3 s0 s1 M = some r) : EV d 92 51 [some (.ref l0), none, some (.int l2), some (.int l3), none] [.int s0, .int s1] M (some (.int r.1), r.2) := by
  unfold f_sm_recordsInLists_51 at h
  refine EV_stq mx_92 (pc' := 16) (L' := [some (.ref l0), some (.int (s1 + s0)), some (.int l2), some (.int (l3 + (1 : Int32))), none]) (st' := []) bo_92_51_8daec0 rfl ?_
  exact hk16 l0 (s1 + s0) l2 (l3 + (1 : Int32)) M r h
theorem e_sm_recordsInLists_16 {d : Nat} (hd : 2 ≤ d) (k4 : Nat → Int32 → Int32 → Mem → Option (Int32 × Mem)) (hk4 : ∀ l0 l1 l2 M r, k4 l0 l1 l2 M = some r → EV d 92 4 [some (.ref l0), some (.int l1), some (.int l2), none, none] [] M (some (.int r.1), r.2)) : ∀ (n : Nat) (l0 : Nat) (l1 : Int32) (l2 : Int32) (l3 : Int32) (M : Mem) (r : Int32 × Mem), f_sm_recordsInLists_16 k4 n l0 l1 l2 l3 M = some r → EV d 92 16 [some (.ref l0), some (.int l1), some (.int l2), some (.int l3), none] [] M (some (.int r.1), r.2) := by
  intro n
  induction n with
  | zero => intro l0 l1 l2 l3 M r h; cases h
  | succ n ih =>
    intro l0 l1 l2 l3 M r h
    unfold f_sm_recordsInLists_16 at h
    refine EV_stq mx_92 (pc' := 19) (L' := [some (.ref l0), some (.int l1), some (.int l2), some (.int l3), none]) (st' := [.int l2, .ref l0, .int l3]) bo_92_16_91f0a1 rfl ?_
    refine h_ck h (fun hc h => ?_)
    refine h_cI h (fun v2 M1 e h => ?_)
    refine EV_call [.ref l0, .int l2] [.int l3] mx_92 li_92_19 rfl rfl si_10_129 rfl (by decide) (by decide) (by omega) ma_90 rfl (Nat.le_of_ble_eq_true rfl) rfl rfl (Nat.le_of_ble_eq_true rfl) (rc_1 mt_at_90 rfl rfl (by decide) hc) (e_sm_sizeOf (by omega) l0 l2 M _ e) ?_
    show EV d 92 22 [some (.ref l0), some (.int l1), some (.int l2), some (.int l3), none] [.int v2, .int l3] M1 _
    refine h_ge h (fun h hc => ?_) (fun h hc => ?_)
    · refine r_icT mx_92 li_92_22 (by decide) rfl hc ?_
      refine EV_stq mx_92 (pc' := 4) (L' := [some (.ref l0), some (.int l1), some (.int (l2 + (1 : Int32))), some (.int l3), none]) (st' := []) bo_92_59_84f730 rfl ?_
      refine EV_forget (A := [some (.ref l0), some (.int l1), some (.int (l2 + (1 : Int32))), none, none]) (lsub_of _ _ ⟨Or.inr rfl, ⟨Or.inr rfl, ⟨Or.inr rfl, ⟨Or.inl rfl, ⟨Or.inl rfl, trivial⟩⟩⟩⟩⟩) ?_
      exact hk4 l0 l1 (l2 + (1 : Int32)) M1 r h
    · refine r_icF mx_92 li_92_22 (by decide) hc ?_
      refine EV_stq mx_92 (pc' := 28) (L' := [some (.ref l0), some (.int l1), some (.int l2), some (.int l3), none]) (st' := [.int l3, .int l2, .ref l0]) bo_92_25_43ea85 rfl ?_
      refine h_ck h (fun hc h => ?_)
      refine h_cR h (fun o4 M3 e h => ?_)
      refine EV_call [.ref l0, .int l2, .int l3] [] mx_92 li_92_28 rfl rfl si_10_141 rfl (by decide) (by decide) (by omega) ma_91 rfl (Nat.le_of_ble_eq_true rfl) rfl rfl (Nat.le_of_ble_eq_true rfl) (rc_1 mt_at_91 rfl rfl (by decide) hc) (e_sm_instanceAt (by omega) l0 l2 l3 M1 _ e) ?_
      refine h_onR (G := fun o => EV d 92 31 [some (.ref l0), some (.int l1), some (.int l2), some (.int l3), none] [rfv o] M3 _) h (fun h => ?_) (fun a5 h => ?_)
      · refine EV_stq mx_92 (pc' := 51) (L' := [some (.ref l0), some (.int l1), some (.int l2), some (.int l3), some (.null)]) (st' := [.int (0 : Int32), .int l1]) bo_92_31_43dc4e rfl ?_
        refine EV_forget (A := [some (.ref l0), none, some (.int l2), some (.int l3), none]) (lsub_of _ _ ⟨Or.inr rfl, ⟨Or.inl rfl, ⟨Or.inr rfl, ⟨Or.inr rfl, ⟨Or.inl rfl, trivial⟩⟩⟩⟩⟩) ?_
        exact e_sm_recordsInLists_51 hd k4 hk4 _ ih l0 l2 l3 (0 : Int32) l1 M3 r h
      · refine EV_stq mx_92 (pc' := 45) (L' := [some (.ref l0), some (.int l1), some (.int l2), some (.int l3), some (.ref a5)]) (st' := [.ref a5, .int l1]) bo_92_31_2337cd rfl ?_
        refine r_gA mx_92 li_92_45 fd_10_168 rfl h (fun a6 h => ?_)
        refine r_gI mx_92 li_92_48 fd_10_156 ⟨by decide, by decide⟩ h (fun v7 h => ?_)
        refine EV_forget (A := [some (.ref l0), none, some (.int l2), some (.int l3), none]) (lsub_of _ _ ⟨Or.inr rfl, ⟨Or.inl rfl, ⟨Or.inr rfl, ⟨Or.inr rfl, ⟨Or.inl rfl, trivial⟩⟩⟩⟩⟩) ?_
        exact e_sm_recordsInLists_51 hd k4 hk4 _ ih l0 l2 l3 v7 l1 M3 r h
theorem e_sm_recordsInLists_4 {d : Nat} (hd : 2 ≤ d) : ∀ (n : Nat) (l0 : Nat) (l1 : Int32) (l2 : Int32) (M : Mem) (r : Int32 × Mem), f_sm_recordsInLists_4 n l0 l1 l2 M = some r → EV d 92 4 [some (.ref l0), some (.int l1), some (.int l2), none, none] [] M (some (.int r.1), r.2) := by
  intro n
  induction n with
  | zero => intro l0 l1 l2 M r h; cases h
  | succ n ih =>
    intro l0 l1 l2 M r h
    unfold f_sm_recordsInLists_4 at h
    refine EV_stq mx_92 (pc' := 6) (L' := [some (.ref l0), some (.int l1), some (.int l2), none, none]) (st' := [.ref l0, .int l2]) bo_92_4_40e659 rfl ?_
    refine r_gI mx_92 li_92_6 fd_10_50 ⟨by decide, by decide⟩ h (fun v1 h => ?_)
    refine EV_stq mx_92 (pc' := 11) (L' := [some (.ref l0), some (.int l1), some (.int l2), none, none]) (st' := [.int (v1 + (1 : Int32)), .int l2]) bo_92_9_16efa2 rfl ?_
    refine h_gt h (fun h hc => ?_) (fun h hc => ?_)
    · refine r_icT mx_92 li_92_11 (by decide) rfl hc ?_
      refine EV_stq mx_92 (pc' := 66) (L' := [some (.ref l0), some (.int l1), some (.int l2), none, none]) (st' := [.int l1]) bo_92_65_a2326b rfl ?_
      obtain rfl := Option.some.inj h
      exact r_ret mx_92 li_92_66 rfl ro_int
    · refine r_icF mx_92 li_92_11 (by decide) hc ?_
      refine EV_stq mx_92 (pc' := 16) (L' := [some (.ref l0), some (.int l1), some (.int l2), some (.int (0 : Int32)), none]) (st' := []) bo_92_14_4d7356 rfl ?_
      exact e_sm_recordsInLists_16 hd _ ih FU l0 l1 l2 (0 : Int32) M r h
theorem e_sm_recordsInLists {d : Nat} (hd : 2 ≤ d) (p0 : Nat) (M : Mem) (r : Int32 × Mem) (h : f_sm_recordsInLists p0 M = some r) : EV d 92 0 (entL 5 [.ref p0]) [] M (some (.int r.1), r.2) := by
  show EV d 92 0 [some (.ref p0), none, none, none, none] [] M _
  unfold f_sm_recordsInLists at h
  refine EV_stq mx_92 (pc' := 4) (L' := [some (.ref p0), some (.int (0 : Int32)), some (.int (0 : Int32)), none, none]) (st' := []) bo_92_0_5a4d31 rfl ?_
  exact e_sm_recordsInLists_4 hd FU p0 (0 : Int32) (0 : Int32) M r h
theorem e_sm_quiet_58 {d : Nat} (hd : 3 ≤ d) (k33 : Nat → Nat → Int32 → Int32 → Mem → Option (Int32 × Mem)) (hk33 : ∀ l0 l1 l2 l3 M r, k33 l0 l1 l2 l3 M = some r → EV d 93 33 [some (.ref l0), some (.ref l1), some (.int l2), some (.int l3), none] [] M (some (.int r.1), r.2)) (l0 : Nat) (l1 : Nat) (l2 : Int32) (l3 : Int32) (M : Mem) (r : Int32 × Mem) (h : f_sm_quiet_58 k33 l0 l1 l2 l3 M = some r) : EV d 93 58 [some (.ref l0), some (.ref l1), some (.int l2), some (.int l3), none] [] M (some (.int r.1), r.2) := by
  unfold f_sm_quiet_58 at h
  refine EV_stq mx_93 (pc' := 33) (L' := [some (.ref l0), some (.ref l1), some (.int l2), some (.int (l3 + (1 : Int32))), none]) (st' := []) bo_93_58_25b6ca rfl ?_
  exact hk33 l0 l1 l2 (l3 + (1 : Int32)) M r h
theorem e_sm_quiet_33 {d : Nat} (hd : 3 ≤ d) : ∀ (n : Nat) (l0 : Nat) (l1 : Nat) (l2 : Int32) (l3 : Int32) (M : Mem) (r : Int32 × Mem), f_sm_quiet_33 n l0 l1 l2 l3 M = some r → EV d 93 33 [some (.ref l0), some (.ref l1), some (.int l2), some (.int l3), none] [] M (some (.int r.1), r.2) := by
  intro n
  induction n with
  | zero => intro l0 l1 l2 l3 M r h; cases h
  | succ n ih =>
    intro l0 l1 l2 l3 M r h
    unfold f_sm_quiet_33 at h
    refine EV_stq mx_93 (pc' := 35) (L' := [some (.ref l0), some (.ref l1), some (.int l2), some (.int l3), none]) (st' := [.int l2, .int l3]) bo_93_33_9ed66c rfl ?_
    refine h_ge h (fun h hc => ?_) (fun h hc => ?_)
    · refine r_icT mx_93 li_93_35 (by decide) rfl hc ?_
      refine EV_stq mx_93 (pc' := 65) (L' := [some (.ref l0), some (.ref l1), some (.int l2), some (.int l3), none]) (st' := [.ref l0]) bo_93_64_446f01 rfl ?_
      refine h_ck h (fun hc h => ?_)
      refine h_cI h (fun v2 M1 e h => ?_)
      refine EV_call [.ref l0] [] mx_93 li_93_65 rfl rfl si_10_161 rfl (by decide) (by decide) (by omega) ma_92 rfl (Nat.le_of_ble_eq_true rfl) rfl rfl (Nat.le_of_ble_eq_true rfl) (rc_1 mt_at_92 rfl rfl (by decide) hc) (e_sm_recordsInLists (by omega) l0 M _ e) ?_
      show EV d 93 68 [some (.ref l0), some (.ref l1), some (.int l2), some (.int l3), none] [.int v2] M1 _
      refine h_ne h (fun h hc => ?_) (fun h hc => ?_)
      · refine r_ifF mx_93 li_93_68 (by decide) hc ?_
        refine EV_stq mx_93 (pc' := 76) (L' := [some (.ref l0), some (.ref l1), some (.int l2), some (.int l3), none]) (st' := [.int (1 : Int32)]) bo_93_71_0bf829 rfl ?_
        obtain rfl := Option.some.inj h
        exact r_ret mx_93 li_93_76 rfl (ro_nar (t := .boolean) (by decide) rfl)
      · refine r_ifT mx_93 li_93_68 (by decide) rfl hc ?_
        refine EV_stq mx_93 (pc' := 76) (L' := [some (.ref l0), some (.ref l1), some (.int l2), some (.int l3), none]) (st' := [.int (0 : Int32)]) bo_93_75_1f1f88 rfl ?_
        obtain rfl := Option.some.inj h
        exact r_ret mx_93 li_93_76 rfl (ro_nar (t := .boolean) (by decide) rfl)
    · refine r_icF mx_93 li_93_35 (by decide) hc ?_
      refine EV_stq mx_93 (pc' := 40) (L' := [some (.ref l0), some (.ref l1), some (.int l2), some (.int l3), none]) (st' := [.int l3, .ref l1]) bo_93_38_ef227d rfl ?_
      refine r_aA mx_93 li_93_40 h (fun a3 h => ?_)
      refine EV_stq mx_93 (pc' := 50) (L' := [some (.ref l0), some (.ref l1), some (.int l2), some (.int l3), some (.ref a3)]) (st' := [.ref a3]) bo_93_41_ff2b81 rfl ?_
      refine h_ck h (fun hc h => ?_)
      refine h_cI h (fun v5 M4 e h => ?_)
      refine EV_call [.ref a3] [] mx_93 li_93_50 rfl rfl si_10_157 rfl (by decide) (by decide) (by omega) ma_89 rfl (Nat.le_of_ble_eq_true rfl) rfl rfl (Nat.le_of_ble_eq_true rfl) (rc_1 mt_at_89 rfl rfl (by decide) hc) (e_ch_isEmpty (by omega) a3 M _ e) ?_
      show EV d 93 53 [some (.ref l0), some (.ref l1), some (.int l2), some (.int l3), some (.ref a3)] [.int v5] M4 _
      refine h_ne h (fun h hc => ?_) (fun h hc => ?_)
      · refine r_ifF mx_93 li_93_53 (by decide) hc ?_
        refine EV_stq mx_93 (pc' := 57) (L' := [some (.ref l0), some (.ref l1), some (.int l2), some (.int l3), some (.ref a3)]) (st' := [.int (0 : Int32)]) bo_93_56_350148 rfl ?_
        obtain rfl := Option.some.inj h
        exact r_ret mx_93 li_93_57 rfl (ro_nar (t := .boolean) (by decide) rfl)
      · refine r_ifT mx_93 li_93_53 (by decide) rfl hc ?_
        refine EV_forget (A := [some (.ref l0), some (.ref l1), some (.int l2), some (.int l3), none]) (lsub_of _ _ ⟨Or.inr rfl, ⟨Or.inr rfl, ⟨Or.inr rfl, ⟨Or.inr rfl, ⟨Or.inl rfl, trivial⟩⟩⟩⟩⟩) ?_
        exact e_sm_quiet_58 hd _ ih l0 l1 l2 l3 M4 r h
theorem e_sm_quiet {d : Nat} (hd : 3 ≤ d) (p0 : Nat) (M : Mem) (r : Int32 × Mem) (h : f_sm_quiet p0 M = some r) : EV d 93 0 (entL 5 [.ref p0]) [] M (some (.int r.1), r.2) := by
  show EV d 93 0 [some (.ref p0), none, none, none, none] [] M _
  unfold f_sm_quiet at h
  refine EV_stq mx_93 (pc' := 1) (L' := [some (.ref p0), none, none, none, none]) (st' := [.ref p0]) bo_93_0_8d5162 rfl ?_
  refine r_gI mx_93 li_93_1 fd_10_135 ⟨by decide, by decide⟩ h (fun v1 h => ?_)
  refine EV_stq mx_93 (pc' := 5) (L' := [some (.ref p0), none, none, none, none]) (st' := [.ref p0, .int v1]) bo_93_4_e962e2 rfl ?_
  refine r_gA mx_93 li_93_5 fd_10_23 rfl h (fun a2 h => ?_)
  refine r_gI mx_93 li_93_8 fd_10_156 ⟨by decide, by decide⟩ h (fun v3 h => ?_)
  refine h_ne h (fun h hc => ?_) (fun h hc => ?_)
  · refine r_icF mx_93 li_93_11 (by decide) hc ?_
    refine EV_stq mx_93 (pc' := 15) (L' := [some (.ref p0), none, none, none, none]) (st' := [.ref p0]) bo_93_14_3e81ce rfl ?_
    refine r_gI mx_93 li_93_15 fd_10_126 ⟨by decide, by decide⟩ h (fun v4 h => ?_)
    refine h_eq h (fun h hc => ?_) (fun h hc => ?_)
    · refine r_ifT mx_93 li_93_18 (by decide) rfl hc ?_
      refine EV_stq mx_93 (pc' := 24) (L' := [some (.ref p0), none, none, none, none]) (st' := [.ref p0]) bo_93_23_b37e12 rfl ?_
      refine r_gA mx_93 li_93_24 fd_10_35 rfl h (fun a5 h => ?_)
      refine EV_stq mx_93 (pc' := 29) (L' := [some (.ref p0), some (.ref a5), none, none, none]) (st' := [.ref a5]) bo_93_27_fe3fdb rfl ?_
      refine r_aN mx_93 li_93_29 h (fun v6 h => ?_)
      refine EV_stq mx_93 (pc' := 33) (L' := [some (.ref p0), some (.ref a5), some (.int v6), some (.int (0 : Int32)), none]) (st' := []) bo_93_30_8434fa rfl ?_
      exact e_sm_quiet_33 hd FU p0 a5 v6 (0 : Int32) M r h
    · refine r_ifF mx_93 li_93_18 (by decide) hc ?_
      refine EV_stq mx_93 (pc' := 22) (L' := [some (.ref p0), none, none, none, none]) (st' := [.int (0 : Int32)]) bo_93_21_46c79c rfl ?_
      obtain rfl := Option.some.inj h
      exact r_ret mx_93 li_93_22 rfl (ro_nar (t := .boolean) (by decide) rfl)
  · refine r_icT mx_93 li_93_11 (by decide) rfl hc ?_
    refine EV_stq mx_93 (pc' := 22) (L' := [some (.ref p0), none, none, none, none]) (st' := [.int (0 : Int32)]) bo_93_21_46c79c rfl ?_
    obtain rfl := Option.some.inj h
    exact r_ret mx_93 li_93_22 rfl (ro_nar (t := .boolean) (by decide) rfl)
theorem e_ch_hasRoom {d : Nat} (hd : 0 ≤ d) (p0 : Nat) (M : Mem) (r : Int32 × Mem) (h : f_ch_hasRoom p0 M = some r) : EV d 94 0 (entL 1 [.ref p0]) [] M (some (.int r.1), r.2) := by
  show EV d 94 0 [some (.ref p0)] [] M _
  unfold f_ch_hasRoom at h
  refine EV_stq mx_94 (pc' := 1) (L' := [some (.ref p0)]) (st' := [.ref p0]) bo_94_0_8d5162 rfl ?_
  refine r_gI mx_94 li_94_1 fd_9_26 ⟨by decide, by decide⟩ h (fun v1 h => ?_)
  refine EV_stq mx_94 (pc' := 5) (L' := [some (.ref p0)]) (st' := [.ref p0, .int v1]) bo_94_4_e962e2 rfl ?_
  refine r_gA mx_94 li_94_5 fd_9_22 rfl h (fun a2 h => ?_)
  refine r_gI mx_94 li_94_8 fd_9_30 ⟨by decide, by decide⟩ h (fun v3 h => ?_)
  refine h_ge h (fun h hc => ?_) (fun h hc => ?_)
  · refine r_icT mx_94 li_94_11 (by decide) rfl hc ?_
    refine EV_stq mx_94 (pc' := 19) (L' := [some (.ref p0)]) (st' := [.int (0 : Int32)]) bo_94_18_2b31d8 rfl ?_
    obtain rfl := Option.some.inj h
    exact r_ret mx_94 li_94_19 rfl (ro_nar (t := .boolean) (by decide) rfl)
  · refine r_icF mx_94 li_94_11 (by decide) hc ?_
    refine EV_stq mx_94 (pc' := 19) (L' := [some (.ref p0)]) (st' := [.int (1 : Int32)]) bo_94_14_4d7356 rfl ?_
    obtain rfl := Option.some.inj h
    exact r_ret mx_94 li_94_19 rfl (ro_nar (t := .boolean) (by decide) rfl)
theorem e_ch_enqueue {d : Nat} (hd : 0 ≤ d) (p0 : Nat) (p1 : Int32) (M : Mem) (r : Mem) (h : f_ch_enqueue p0 p1 M = some r) : EV d 95 0 (entL 2 [.ref p0, .int p1]) [] M (none, r) := by
  show EV d 95 0 [some (.ref p0), some (.int p1)] [] M _
  unfold f_ch_enqueue at h
  refine EV_stq mx_95 (pc' := 1) (L' := [some (.ref p0), some (.int p1)]) (st' := [.ref p0]) bo_95_0_8d5162 rfl ?_
  refine r_gA mx_95 li_95_1 fd_9_18 rfl h (fun a1 h => ?_)
  refine EV_stq mx_95 (pc' := 5) (L' := [some (.ref p0), some (.int p1)]) (st' := [.ref p0, .ref a1]) bo_95_4_e962e2 rfl ?_
  refine r_gI mx_95 li_95_5 fd_9_59 ⟨by decide, by decide⟩ h (fun v2 h => ?_)
  refine EV_stq mx_95 (pc' := 9) (L' := [some (.ref p0), some (.int p1)]) (st' := [.ref p0, .int v2, .ref a1]) bo_95_8_383530 rfl ?_
  refine r_gI mx_95 li_95_9 fd_9_26 ⟨by decide, by decide⟩ h (fun v3 h => ?_)
  refine EV_stq mx_95 (pc' := 16) (L' := [some (.ref p0), some (.int p1)]) (st' := [.int p1, .int ((v2 + v3) &&& (3 : Int32)), .ref a1]) bo_95_12_011d94 rfl ?_
  refine r_sI mx_95 li_95_16 h (fun M4 h => ?_)
  refine EV_stq mx_95 (pc' := 19) (L' := [some (.ref p0), some (.int p1)]) (st' := [.ref p0, .ref p0]) bo_95_17_03196b rfl ?_
  refine r_gI mx_95 li_95_19 fd_9_26 ⟨by decide, by decide⟩ h (fun v5 h => ?_)
  refine EV_stq mx_95 (pc' := 24) (L' := [some (.ref p0), some (.int p1)]) (st' := [.int (v5 + (1 : Int32)), .ref p0]) bo_95_22_13b32e rfl ?_
  refine r_pI mx_95 li_95_24 fd_9_26 (Or.inl rfl) rfl h (fun M6 h => ?_)
  obtain rfl := Option.some.inj h
  exact r_ret mx_95 li_95_27 rfl rfl
theorem e_ch_closeOpen {d : Nat} (hd : 1 ≤ d) (p0 : Nat) (M : Mem) (r : Mem) (h : f_ch_closeOpen p0 M = some r) : EV d 96 0 (entL 1 [.ref p0]) [] M (none, r) := by
  show EV d 96 0 [some (.ref p0)] [] M _
  unfold f_ch_closeOpen at h
  refine EV_stq mx_96 (pc' := 2) (L' := [some (.ref p0)]) (st' := [.ref p0, .ref p0]) bo_96_0_264884 rfl ?_
  refine r_gI mx_96 li_96_2 fd_9_35 ⟨by decide, by decide⟩ h (fun v1 h => ?_)
  refine h_ck h (fun hc h => ?_)
  refine h_cV h (fun M2 e h => ?_)
  refine EV_call [.ref p0, .int v1] [] mx_96 li_96_5 rfl rfl si_9_52 rfl (by decide) (by decide) (by omega) ma_95 rfl (Nat.le_of_ble_eq_true rfl) rfl rfl (Nat.le_of_ble_eq_true rfl) (rc_1 mt_at_95 rfl rfl (by decide) hc) (e_ch_enqueue (by omega) p0 v1 M _ e) ?_
  show EV d 96 8 [some (.ref p0)] [] M2 _
  refine EV_stq mx_96 (pc' := 10) (L' := [some (.ref p0)]) (st' := [.int (0 : Int32), .ref p0]) bo_96_8_0adad6 rfl ?_
  refine r_pI mx_96 li_96_10 fd_9_35 (Or.inl rfl) rfl h (fun M3 h => ?_)
  refine EV_stq mx_96 (pc' := 15) (L' := [some (.ref p0)]) (st' := [.int (0 : Int32), .ref p0]) bo_96_13_1f05a9 rfl ?_
  refine r_pI mx_96 li_96_15 fd_9_55 (Or.inl rfl) rfl h (fun M4 h => ?_)
  obtain rfl := Option.some.inj h
  exact r_ret mx_96 li_96_18 rfl rfl
theorem e_ch_growOlder {d : Nat} (hd : 2 ≤ d) (p0 : Nat) (M : Mem) (r : Mem) (h : f_ch_growOlder p0 M = some r) : EV d 97 0 (entL 1 [.ref p0]) [] M (none, r) := by
  show EV d 97 0 [some (.ref p0)] [] M _
  unfold f_ch_growOlder at h
  refine EV_stq mx_97 (pc' := 1) (L' := [some (.ref p0)]) (st' := [.ref p0]) bo_97_0_8d5162 rfl ?_
  refine r_gI mx_97 li_97_1 fd_9_35 ⟨by decide, by decide⟩ h (fun v1 h => ?_)
  refine h_ne h (fun h hc => ?_) (fun h hc => ?_)
  · refine r_ifF mx_97 li_97_4 (by decide) hc ?_
    obtain rfl := Option.some.inj h
    exact r_ret mx_97 li_97_7 rfl rfl
  · refine r_ifT mx_97 li_97_4 (by decide) rfl hc ?_
    refine EV_stq mx_97 (pc' := 10) (L' := [some (.ref p0)]) (st' := [.ref p0, .ref p0]) bo_97_8_0adad6 rfl ?_
    refine r_gI mx_97 li_97_10 fd_9_55 ⟨by decide, by decide⟩ h (fun v2 h => ?_)
    refine EV_stq mx_97 (pc' := 15) (L' := [some (.ref p0)]) (st' := [.int (v2 + (1 : Int32)), .ref p0]) bo_97_13_1f05a9 rfl ?_
    refine r_pI mx_97 li_97_15 fd_9_55 (Or.inl rfl) rfl h (fun M3 h => ?_)
    refine EV_stq mx_97 (pc' := 19) (L' := [some (.ref p0)]) (st' := [.ref p0]) bo_97_18_2b31d8 rfl ?_
    refine r_gI mx_97 li_97_19 fd_9_55 ⟨by decide, by decide⟩ h (fun v4 h => ?_)
    refine EV_stq mx_97 (pc' := 23) (L' := [some (.ref p0)]) (st' := [.ref p0, .int v4]) bo_97_22_60ac31 rfl ?_
    refine r_gA mx_97 li_97_23 fd_9_22 rfl h (fun a5 h => ?_)
    refine r_gI mx_97 li_97_26 fd_9_58 ⟨by decide, by decide⟩ h (fun v6 h => ?_)
    refine h_lt h (fun h hc => ?_) (fun h hc => ?_)
    · refine r_icT mx_97 li_97_29 (by decide) rfl hc ?_
      obtain rfl := Option.some.inj h
      exact r_ret mx_97 li_97_43 rfl rfl
    · refine r_icF mx_97 li_97_29 (by decide) hc ?_
      refine EV_stq mx_97 (pc' := 33) (L' := [some (.ref p0)]) (st' := [.ref p0]) bo_97_32_191034 rfl ?_
      refine h_ck h (fun hc h => ?_)
      refine h_cI h (fun v8 M7 e h => ?_)
      refine EV_call [.ref p0] [] mx_97 li_97_33 rfl rfl si_9_41 rfl (by decide) (by decide) (by omega) ma_94 rfl (Nat.le_of_ble_eq_true rfl) rfl rfl (Nat.le_of_ble_eq_true rfl) (rc_1 mt_at_94 rfl rfl (by decide) hc) (e_ch_hasRoom (by omega) p0 M3 _ e) ?_
      show EV d 97 36 [some (.ref p0)] [.int v8] M7 _
      refine h_eq h (fun h hc => ?_) (fun h hc => ?_)
      · refine r_ifT mx_97 li_97_36 (by decide) rfl hc ?_
        obtain rfl := Option.some.inj h
        exact r_ret mx_97 li_97_43 rfl rfl
      · refine r_ifF mx_97 li_97_36 (by decide) hc ?_
        refine EV_stq mx_97 (pc' := 40) (L' := [some (.ref p0)]) (st' := [.ref p0]) bo_97_39_4dcc25 rfl ?_
        refine h_ck h (fun hc h => ?_)
        refine h_cV h (fun M9 e h => ?_)
        refine EV_call [.ref p0] [] mx_97 li_97_40 rfl rfl si_9_45 rfl (by decide) (by decide) (by omega) ma_96 rfl (Nat.le_of_ble_eq_true rfl) rfl rfl (Nat.le_of_ble_eq_true rfl) (rc_1 mt_at_96 rfl rfl (by decide) hc) (e_ch_closeOpen (by omega) p0 M7 _ e) ?_
        show EV d 97 43 [some (.ref p0)] [] M9 _
        obtain rfl := Option.some.inj h
        exact r_ret mx_97 li_97_43 rfl rfl
theorem e_op_isKeyed {d : Nat} (hd : 0 ≤ d) (p0 : Nat) (M : Mem) (r : Int32 × Mem) (h : f_op_isKeyed p0 M = some r) : EV d 98 0 (entL 1 [.ref p0]) [] M (some (.int r.1), r.2) := by
  show EV d 98 0 [some (.ref p0)] [] M _
  unfold f_op_isKeyed at h
  refine EV_stq mx_98 (pc' := 1) (L' := [some (.ref p0)]) (st' := [.ref p0]) bo_98_0_8d5162 rfl ?_
  refine r_gI mx_98 li_98_1 fd_8_47 ⟨by decide, by decide⟩ h (fun v1 h => ?_)
  refine EV_stq mx_98 (pc' := 5) (L' := [some (.ref p0)]) (st' := [.int (4 : Int32), .int v1]) bo_98_4_e962e2 rfl ?_
  refine h_eq h (fun h hc => ?_) (fun h hc => ?_)
  · refine r_icT mx_98 li_98_5 (by decide) rfl hc ?_
    refine EV_stq mx_98 (pc' := 39) (L' := [some (.ref p0)]) (st' := [.int (1 : Int32)]) bo_98_34_812988 rfl ?_
    obtain rfl := Option.some.inj h
    exact r_ret mx_98 li_98_39 rfl (ro_nar (t := .boolean) (by decide) rfl)
  · refine r_icF mx_98 li_98_5 (by decide) hc ?_
    refine EV_stq mx_98 (pc' := 9) (L' := [some (.ref p0)]) (st' := [.ref p0]) bo_98_8_383530 rfl ?_
    refine r_gI mx_98 li_98_9 fd_8_47 ⟨by decide, by decide⟩ h (fun v2 h => ?_)
    refine EV_stq mx_98 (pc' := 13) (L' := [some (.ref p0)]) (st' := [.int (5 : Int32), .int v2]) bo_98_12_d0d0c9 rfl ?_
    refine h_eq h (fun h hc => ?_) (fun h hc => ?_)
    · refine r_icT mx_98 li_98_13 (by decide) rfl hc ?_
      refine EV_stq mx_98 (pc' := 39) (L' := [some (.ref p0)]) (st' := [.int (1 : Int32)]) bo_98_34_812988 rfl ?_
      obtain rfl := Option.some.inj h
      exact r_ret mx_98 li_98_39 rfl (ro_nar (t := .boolean) (by decide) rfl)
    · refine r_icF mx_98 li_98_13 (by decide) hc ?_
      refine EV_stq mx_98 (pc' := 17) (L' := [some (.ref p0)]) (st' := [.ref p0]) bo_98_16_862b1a rfl ?_
      refine r_gI mx_98 li_98_17 fd_8_47 ⟨by decide, by decide⟩ h (fun v3 h => ?_)
      refine EV_stq mx_98 (pc' := 22) (L' := [some (.ref p0)]) (st' := [.int (6 : Int32), .int v3]) bo_98_20_baa9a0 rfl ?_
      refine h_eq h (fun h hc => ?_) (fun h hc => ?_)
      · refine r_icT mx_98 li_98_22 (by decide) rfl hc ?_
        refine EV_stq mx_98 (pc' := 39) (L' := [some (.ref p0)]) (st' := [.int (1 : Int32)]) bo_98_34_812988 rfl ?_
        obtain rfl := Option.some.inj h
        exact r_ret mx_98 li_98_39 rfl (ro_nar (t := .boolean) (by decide) rfl)
      · refine r_icF mx_98 li_98_22 (by decide) hc ?_
        refine EV_stq mx_98 (pc' := 26) (L' := [some (.ref p0)]) (st' := [.ref p0]) bo_98_25_1858f6 rfl ?_
        refine r_gI mx_98 li_98_26 fd_8_47 ⟨by decide, by decide⟩ h (fun v4 h => ?_)
        refine EV_stq mx_98 (pc' := 31) (L' := [some (.ref p0)]) (st' := [.int (8 : Int32), .int v4]) bo_98_29_2d7a5f rfl ?_
        refine h_ne h (fun h hc => ?_) (fun h hc => ?_)
        · refine r_icF mx_98 li_98_31 (by decide) hc ?_
          refine EV_stq mx_98 (pc' := 39) (L' := [some (.ref p0)]) (st' := [.int (1 : Int32)]) bo_98_34_812988 rfl ?_
          obtain rfl := Option.some.inj h
          exact r_ret mx_98 li_98_39 rfl (ro_nar (t := .boolean) (by decide) rfl)
        · refine r_icT mx_98 li_98_31 (by decide) rfl hc ?_
          refine EV_stq mx_98 (pc' := 39) (L' := [some (.ref p0)]) (st' := [.int (0 : Int32)]) bo_98_38_c8c763 rfl ?_
          obtain rfl := Option.some.inj h
          exact r_ret mx_98 li_98_39 rfl (ro_nar (t := .boolean) (by decide) rfl)
theorem e_rc_keyAt {d : Nat} (hd : 0 ≤ d) (p0 : Nat) (p1 : Int32) (M : Mem) (r : Int32 × Mem) (h : f_rc_keyAt p0 p1 M = some r) : EV d 99 0 (entL 2 [.ref p0, .int p1]) [] M (some (.int r.1), r.2) := by
  show EV d 99 0 [some (.ref p0), some (.int p1)] [] M _
  unfold f_rc_keyAt at h
  refine EV_stq mx_99 (pc' := 1) (L' := [some (.ref p0), some (.int p1)]) (st' := [.ref p0]) bo_99_0_8d5162 rfl ?_
  refine r_gA mx_99 li_99_1 fd_4_7 rfl h (fun a1 h => ?_)
  refine EV_stq mx_99 (pc' := 5) (L' := [some (.ref p0), some (.int p1)]) (st' := [.ref p0, .ref a1]) bo_99_4_e962e2 rfl ?_
  refine r_gI mx_99 li_99_5 fd_4_26 ⟨by decide, by decide⟩ h (fun v2 h => ?_)
  refine EV_stq mx_99 (pc' := 11) (L' := [some (.ref p0), some (.int p1)]) (st' := [.ref p0, .int (v2 + p1), .ref a1]) bo_99_8_325fca rfl ?_
  refine r_gI mx_99 li_99_11 fd_4_19 ⟨by decide, by decide⟩ h (fun v3 h => ?_)
  refine EV_stq mx_99 (pc' := 15) (L' := [some (.ref p0), some (.int p1)]) (st' := [.int ((v2 + p1) &&& v3), .ref a1]) bo_99_14_3e81ce rfl ?_
  refine r_aI mx_99 li_99_15 h (fun v4 h => ?_)
  obtain rfl := Option.some.inj h
  exact r_ret mx_99 li_99_16 rfl ro_int
theorem e_op_ownerOf {d : Nat} (hd : 0 ≤ d) (p0 : Nat) (p1 : Int32) (p2 : Int32) (M : Mem) (r : Int32 × Mem) (h : f_op_ownerOf p0 p1 p2 M = some r) : EV d 100 0 (entL 3 [.ref p0, .int p1, .int p2]) [] M (some (.int r.1), r.2) := by
  show EV d 100 0 [some (.ref p0), some (.int p1), some (.int p2)] [] M _
  unfold f_op_ownerOf at h
  refine EV_stq mx_100 (pc' := 8) (L' := [some (.ref p0), some (.int p1), some (.int p2)]) (st' := [.int (8 : Int32), .int ((p1 &&& (7 : Int32)) * p2)]) bo_100_0_da07eb rfl ?_
  refine r_dv mx_100 li_100_8 h (fun v1 h => ?_)
  obtain rfl := Option.some.inj h
  exact r_ret mx_100 li_100_9 rfl ro_int
theorem e_ma_floorMod {d : Nat} (hd : 0 ≤ d) (p0 : Int32) (p1 : Int32) (M : Mem) (r : Int32 × Mem) (h : f_ma_floorMod p0 p1 M = some r) : EV d 101 0 (entL 3 [.int p0, .int p1]) [] M (some (.int r.1), r.2) := by
  show EV d 101 0 [some (.int p0), some (.int p1), none] [] M _
  unfold f_ma_floorMod at h
  refine EV_stq mx_101 (pc' := 2) (L' := [some (.int p0), some (.int p1), none]) (st' := [.int p1, .int p0]) bo_101_0_264884 rfl ?_
  refine r_rm mx_101 li_101_2 h (fun v1 h => ?_)
  refine EV_stq mx_101 (pc' := 7) (L' := [some (.int p0), some (.int p1), some (.int v1)]) (st' := [.int (p0 ^^^ p1)]) bo_101_3_07ff9d rfl ?_
  refine h_ge h (fun h hc => ?_) (fun h hc => ?_)
  · refine r_ifT mx_101 li_101_7 (by decide) rfl hc ?_
    refine EV_stq mx_101 (pc' := 19) (L' := [some (.int p0), some (.int p1), some (.int v1)]) (st' := [.int v1]) bo_101_18_2b31d8 rfl ?_
    obtain rfl := Option.some.inj h
    exact r_ret mx_101 li_101_19 rfl ro_int
  · refine r_ifF mx_101 li_101_7 (by decide) hc ?_
    refine EV_stq mx_101 (pc' := 11) (L' := [some (.int p0), some (.int p1), some (.int v1)]) (st' := [.int v1]) bo_101_10_2a30f5 rfl ?_
    refine h_eq h (fun h hc => ?_) (fun h hc => ?_)
    · refine r_ifT mx_101 li_101_11 (by decide) rfl hc ?_
      refine EV_stq mx_101 (pc' := 19) (L' := [some (.int p0), some (.int p1), some (.int v1)]) (st' := [.int v1]) bo_101_18_2b31d8 rfl ?_
      obtain rfl := Option.some.inj h
      exact r_ret mx_101 li_101_19 rfl ro_int
    · refine r_ifF mx_101 li_101_11 (by decide) hc ?_
      refine EV_stq mx_101 (pc' := 17) (L' := [some (.int p0), some (.int p1), some (.int v1)]) (st' := [.int (v1 + p1)]) bo_101_14_7ac8d1 rfl ?_
      obtain rfl := Option.some.inj h
      exact r_ret mx_101 li_101_17 rfl ro_int
theorem e_sm_targetOf {d : Nat} (hd : 1 ≤ d) (p0 : Nat) (p1 : Int32) (p2 : Nat) (M : Mem) (r : Int32 × Mem) (h : f_sm_targetOf p0 p1 p2 M = some r) : EV d 102 0 (entL 4 [.ref p0, .int p1, .ref p2]) [] M (some (.int r.1), r.2) := by
  show EV d 102 0 [some (.ref p0), some (.int p1), some (.ref p2), none] [] M _
  unfold f_sm_targetOf at h
  refine EV_stq mx_102 (pc' := 4) (L' := [some (.ref p0), some (.int p1), some (.ref p2), none]) (st' := [.int (p1 + (1 : Int32)), .ref p0]) bo_102_0_5a4d31 rfl ?_
  refine h_ck h (fun hc h => ?_)
  refine h_cR h (fun o2 M1 e h => ?_)
  refine EV_call [.ref p0, .int (p1 + (1 : Int32))] [] mx_102 li_102_4 rfl rfl si_10_54 rfl (by decide) (by decide) (by omega) ma_56 rfl (Nat.le_of_ble_eq_true rfl) rfl rfl (Nat.le_of_ble_eq_true rfl) (rc_1 mt_at_56 rfl rfl (by decide) hc) (e_sm_operatorAt (by omega) p0 (p1 + (1 : Int32)) M _ e) ?_
  refine h_onR (G := fun o => EV d 102 7 [some (.ref p0), some (.int p1), some (.ref p2), none] [rfv o] M1 _) h (fun h => ?_) (fun a3 h => ?_)
  · refine EV_stq mx_102 (pc' := 30) (L' := [some (.ref p0), some (.int p1), some (.ref p2), some (.null)]) (st' := [.int (-1 : Int32)]) bo_102_7_ef20d1 rfl ?_
    obtain rfl := Option.some.inj h
    exact r_ret mx_102 li_102_30 rfl ro_int
  · refine EV_stq mx_102 (pc' := 13) (L' := [some (.ref p0), some (.int p1), some (.ref p2), some (.ref a3)]) (st' := [.ref a3]) bo_102_7_ac2c6f rfl ?_
    refine r_gI mx_102 li_102_13 fd_10_58 ⟨by decide, by decide⟩ h (fun v4 h => ?_)
    refine h_le h (fun h hc => ?_) (fun h hc => ?_)
    · refine r_ifT mx_102 li_102_16 (by decide) rfl hc ?_
      refine EV_stq mx_102 (pc' := 30) (L' := [some (.ref p0), some (.int p1), some (.ref p2), some (.ref a3)]) (st' := [.int (-1 : Int32)]) bo_102_29_2d7a5f rfl ?_
      obtain rfl := Option.some.inj h
      exact r_ret mx_102 li_102_30 rfl ro_int
    · refine r_ifF mx_102 li_102_16 (by decide) hc ?_
      refine EV_stq mx_102 (pc' := 20) (L' := [some (.ref p0), some (.int p1), some (.ref p2), some (.ref a3)]) (st' := [.ref p2]) bo_102_19_1a8444 rfl ?_
      refine r_gA mx_102 li_102_20 fd_10_168 rfl h (fun a5 h => ?_)
      refine r_gI mx_102 li_102_23 fd_10_156 ⟨by decide, by decide⟩ h (fun v6 h => ?_)
      refine h_ne h (fun h hc => ?_) (fun h hc => ?_)
      · refine r_ifF mx_102 li_102_26 (by decide) hc ?_
        refine EV_stq mx_102 (pc' := 30) (L' := [some (.ref p0), some (.int p1), some (.ref p2), some (.ref a3)]) (st' := [.int (-1 : Int32)]) bo_102_29_2d7a5f rfl ?_
        obtain rfl := Option.some.inj h
        exact r_ret mx_102 li_102_30 rfl ro_int
      · refine r_ifT mx_102 li_102_26 (by decide) rfl hc ?_
        refine EV_stq mx_102 (pc' := 32) (L' := [some (.ref p0), some (.int p1), some (.ref p2), some (.ref a3)]) (st' := [.ref a3]) bo_102_31_c379e3 rfl ?_
        refine h_ck h (fun hc h => ?_)
        refine h_cI h (fun v8 M7 e h => ?_)
        refine EV_call [.ref a3] [] mx_102 li_102_32 rfl rfl si_10_190 rfl (by decide) (by decide) (by omega) ma_98 rfl (Nat.le_of_ble_eq_true rfl) rfl rfl (Nat.le_of_ble_eq_true rfl) (rc_1 mt_at_98 rfl rfl (by decide) hc) (e_op_isKeyed (by omega) a3 M1 _ e) ?_
        show EV d 102 35 [some (.ref p0), some (.int p1), some (.ref p2), some (.ref a3)] [.int v8] M7 _
        refine h_eq h (fun h hc => ?_) (fun h hc => ?_)
        · refine r_ifT mx_102 li_102_35 (by decide) rfl hc ?_
          refine EV_stq mx_102 (pc' := 56) (L' := [some (.ref p0), some (.int p1), some (.ref p2), some (.ref a3)]) (st' := [.ref p2]) bo_102_55_bd1207 rfl ?_
          refine r_gI mx_102 li_102_56 fd_10_145 ⟨by decide, by decide⟩ h (fun v9 h => ?_)
          refine EV_stq mx_102 (pc' := 60) (L' := [some (.ref p0), some (.int p1), some (.ref p2), some (.ref a3)]) (st' := [.ref a3, .int v9]) bo_102_59_8c3b95 rfl ?_
          refine r_gI mx_102 li_102_60 fd_10_58 ⟨by decide, by decide⟩ h (fun v10 h => ?_)
          refine h_cI h (fun v12 M11 e h => ?_)
          refine EV_call [.int v9, .int v10] [] mx_102 li_102_63 rfl rfl si_10_200 rfl (by decide) (by decide) (by omega) ma_101 rfl (Nat.le_of_ble_eq_true rfl) rfl rfl (Nat.le_of_ble_eq_true rfl) rfl (e_ma_floorMod (by omega) v9 v10 M7 _ e) ?_
          show EV d 102 66 [some (.ref p0), some (.int p1), some (.ref p2), some (.ref a3)] [.int v12] M11 _
          obtain rfl := Option.some.inj h
          exact r_ret mx_102 li_102_66 rfl ro_int
        · refine r_ifF mx_102 li_102_35 (by decide) hc ?_
          refine EV_stq mx_102 (pc' := 40) (L' := [some (.ref p0), some (.int p1), some (.ref p2), some (.ref a3)]) (st' := [.ref p2, .ref a3]) bo_102_38_ef227d rfl ?_
          refine r_gA mx_102 li_102_40 fd_10_168 rfl h (fun a13 h => ?_)
          refine EV_stq mx_102 (pc' := 44) (L' := [some (.ref p0), some (.int p1), some (.ref p2), some (.ref a3)]) (st' := [.int (0 : Int32), .ref a13, .ref a3]) bo_102_43_d85b47 rfl ?_
          refine h_ck h (fun hc h => ?_)
          refine h_cI h (fun v15 M14 e h => ?_)
          refine EV_call [.ref a13, .int (0 : Int32)] [.ref a3] mx_102 li_102_44 rfl rfl si_10_193 rfl (by decide) (by decide) (by omega) ma_99 rfl (Nat.le_of_ble_eq_true rfl) rfl rfl (Nat.le_of_ble_eq_true rfl) (rc_1 mt_at_99 rfl rfl (by decide) hc) (e_rc_keyAt (by omega) a13 (0 : Int32) M7 _ e) ?_
          show EV d 102 47 [some (.ref p0), some (.int p1), some (.ref p2), some (.ref a3)] [.int v15, .ref a3] M14 _
          refine EV_stq mx_102 (pc' := 48) (L' := [some (.ref p0), some (.int p1), some (.ref p2), some (.ref a3)]) (st' := [.ref a3, .int v15, .ref a3]) bo_102_47_d7fa8e rfl ?_
          refine r_gI mx_102 li_102_48 fd_10_58 ⟨by decide, by decide⟩ h (fun v16 h => ?_)
          refine h_ck h (fun hc h => ?_)
          refine h_cI h (fun v18 M17 e h => ?_)
          refine EV_call [.ref a3, .int v15, .int v16] [] mx_102 li_102_51 rfl rfl si_10_196 rfl (by decide) (by decide) (by omega) ma_100 rfl (Nat.le_of_ble_eq_true rfl) rfl rfl (Nat.le_of_ble_eq_true rfl) (rc_1 mt_at_100 rfl rfl (by decide) hc) (e_op_ownerOf (by omega) a3 v15 v16 M14 _ e) ?_
          show EV d 102 54 [some (.ref p0), some (.int p1), some (.ref p2), some (.ref a3)] [.int v18] M17 _
          obtain rfl := Option.some.inj h
          exact r_ret mx_102 li_102_54 rfl ro_int
theorem e_sm_channelAt {d : Nat} (hd : 1 ≤ d) (p0 : Nat) (p1 : Int32) (p2 : Int32) (p3 : Int32) (M : Mem) (r : Option Nat × Mem) (h : f_sm_channelAt p0 p1 p2 p3 M = some r) : EV d 103 0 (entL 7 [.ref p0, .int p1, .int p2, .int p3]) [] M (some (rfv r.1), r.2) := by
  show EV d 103 0 [some (.ref p0), some (.int p1), some (.int p2), some (.int p3), none, none, none] [] M _
  unfold f_sm_channelAt at h
  refine EV_stq mx_103 (pc' := 2) (L' := [some (.ref p0), some (.int p1), some (.int p2), some (.int p3), none, none, none]) (st' := [.int p1, .ref p0]) bo_103_0_264884 rfl ?_
  refine h_ck h (fun hc h => ?_)
  refine h_cR h (fun o2 M1 e h => ?_)
  refine EV_call [.ref p0, .int p1] [] mx_103 li_103_2 rfl rfl si_10_54 rfl (by decide) (by decide) (by omega) ma_56 rfl (Nat.le_of_ble_eq_true rfl) rfl rfl (Nat.le_of_ble_eq_true rfl) (rc_1 mt_at_56 rfl rfl (by decide) hc) (e_sm_operatorAt (by omega) p0 p1 M _ e) ?_
  refine h_onR (G := fun o => EV d 103 5 [some (.ref p0), some (.int p1), some (.int p2), some (.int p3), none, none, none] [rfv o] M1 _) h (fun h => ?_) (fun a3 h => ?_)
  · refine EV_stq mx_103 (pc' := 11) (L' := [some (.ref p0), some (.int p1), some (.int p2), some (.int p3), some (.null), none, none]) (st' := [.int (p1 + (1 : Int32)), .ref p0]) bo_103_5_4a4e1d rfl ?_
    refine h_ck h (fun hc h => ?_)
    refine h_cR h (fun o5 M4 e h => ?_)
    refine EV_call [.ref p0, .int (p1 + (1 : Int32))] [] mx_103 li_103_11 rfl rfl si_10_54 rfl (by decide) (by decide) (by omega) ma_56 rfl (Nat.le_of_ble_eq_true rfl) rfl rfl (Nat.le_of_ble_eq_true rfl) (rc_1 mt_at_56 rfl rfl (by decide) hc) (e_sm_operatorAt (by omega) p0 (p1 + (1 : Int32)) M1 _ e) ?_
    refine h_onR (G := fun o => EV d 103 14 [some (.ref p0), some (.int p1), some (.int p2), some (.int p3), some (.null), none, none] [rfv o] M4 _) h (fun h => ?_) (fun a6 h => ?_)
    · refine EV_stq mx_103 (pc' := 27) (L' := [some (.ref p0), some (.int p1), some (.int p2), some (.int p3), some (.null), some (.null), none]) (st' := [.null]) bo_103_14_dad26f rfl ?_
      obtain rfl := Option.some.inj h
      exact r_ret mx_103 li_103_27 rfl rfl
    · refine EV_stq mx_103 (pc' := 27) (L' := [some (.ref p0), some (.int p1), some (.int p2), some (.int p3), some (.null), some (.ref a6), none]) (st' := [.null]) bo_103_14_dad26f rfl ?_
      obtain rfl := Option.some.inj h
      exact r_ret mx_103 li_103_27 rfl rfl
  · refine EV_stq mx_103 (pc' := 11) (L' := [some (.ref p0), some (.int p1), some (.int p2), some (.int p3), some (.ref a3), none, none]) (st' := [.int (p1 + (1 : Int32)), .ref p0]) bo_103_5_4a4e1d rfl ?_
    refine h_ck h (fun hc h => ?_)
    refine h_cR h (fun o8 M7 e h => ?_)
    refine EV_call [.ref p0, .int (p1 + (1 : Int32))] [] mx_103 li_103_11 rfl rfl si_10_54 rfl (by decide) (by decide) (by omega) ma_56 rfl (Nat.le_of_ble_eq_true rfl) rfl rfl (Nat.le_of_ble_eq_true rfl) (rc_1 mt_at_56 rfl rfl (by decide) hc) (e_sm_operatorAt (by omega) p0 (p1 + (1 : Int32)) M1 _ e) ?_
    refine h_onR (G := fun o => EV d 103 14 [some (.ref p0), some (.int p1), some (.int p2), some (.int p3), some (.ref a3), none, none] [rfv o] M7 _) h (fun h => ?_) (fun a9 h => ?_)
    · refine EV_stq mx_103 (pc' := 27) (L' := [some (.ref p0), some (.int p1), some (.int p2), some (.int p3), some (.ref a3), some (.null), none]) (st' := [.null]) bo_103_14_6e7d76 rfl ?_
      obtain rfl := Option.some.inj h
      exact r_ret mx_103 li_103_27 rfl rfl
    · refine EV_stq mx_103 (pc' := 29) (L' := [some (.ref p0), some (.int p1), some (.int p2), some (.int p3), some (.ref a3), some (.ref a9), none]) (st' := [.int p2]) bo_103_14_e31ebd rfl ?_
      refine h_lt h (fun h hc => ?_) (fun h hc => ?_)
      · refine r_ifT mx_103 li_103_29 (by decide) rfl hc ?_
        refine EV_stq mx_103 (pc' := 55) (L' := [some (.ref p0), some (.int p1), some (.int p2), some (.int p3), some (.ref a3), some (.ref a9), none]) (st' := [.null]) bo_103_54_02ca38 rfl ?_
        obtain rfl := Option.some.inj h
        exact r_ret mx_103 li_103_55 rfl rfl
      · refine r_ifF mx_103 li_103_29 (by decide) hc ?_
        refine EV_stq mx_103 (pc' := 35) (L' := [some (.ref p0), some (.int p1), some (.int p2), some (.int p3), some (.ref a3), some (.ref a9), none]) (st' := [.ref a3, .int p2]) bo_103_32_dac25e rfl ?_
        refine r_gI mx_103 li_103_35 fd_10_58 ⟨by decide, by decide⟩ h (fun v10 h => ?_)
        refine h_ge h (fun h hc => ?_) (fun h hc => ?_)
        · refine r_icT mx_103 li_103_38 (by decide) rfl hc ?_
          refine EV_stq mx_103 (pc' := 55) (L' := [some (.ref p0), some (.int p1), some (.int p2), some (.int p3), some (.ref a3), some (.ref a9), none]) (st' := [.null]) bo_103_54_02ca38 rfl ?_
          obtain rfl := Option.some.inj h
          exact r_ret mx_103 li_103_55 rfl rfl
        · refine r_icF mx_103 li_103_38 (by decide) hc ?_
          refine EV_stq mx_103 (pc' := 42) (L' := [some (.ref p0), some (.int p1), some (.int p2), some (.int p3), some (.ref a3), some (.ref a9), none]) (st' := [.int p3]) bo_103_41_45abaf rfl ?_
          refine h_lt h (fun h hc => ?_) (fun h hc => ?_)
          · refine r_ifT mx_103 li_103_42 (by decide) rfl hc ?_
            refine EV_stq mx_103 (pc' := 55) (L' := [some (.ref p0), some (.int p1), some (.int p2), some (.int p3), some (.ref a3), some (.ref a9), none]) (st' := [.null]) bo_103_54_02ca38 rfl ?_
            obtain rfl := Option.some.inj h
            exact r_ret mx_103 li_103_55 rfl rfl
          · refine r_ifF mx_103 li_103_42 (by decide) hc ?_
            refine EV_stq mx_103 (pc' := 48) (L' := [some (.ref p0), some (.int p1), some (.int p2), some (.int p3), some (.ref a3), some (.ref a9), none]) (st' := [.ref a9, .int p3]) bo_103_45_b7d017 rfl ?_
            refine r_gI mx_103 li_103_48 fd_10_58 ⟨by decide, by decide⟩ h (fun v11 h => ?_)
            refine h_lt h (fun h hc => ?_) (fun h hc => ?_)
            · refine r_icT mx_103 li_103_51 (by decide) rfl hc ?_
              refine EV_stq mx_103 (pc' := 69) (L' := [some (.ref p0), some (.int p1), some (.int p2), some (.int p3), some (.ref a3), some (.ref a9), some (.int ((((p1 * (3 : Int32)) + p2) * (3 : Int32)) + p3))]) (st' := [.int ((((p1 * (3 : Int32)) + p2) * (3 : Int32)) + p3)]) bo_103_56_bc2598 rfl ?_
              refine h_lt h (fun h hc => ?_) (fun h hc => ?_)
              · refine r_ifT mx_103 li_103_69 (by decide) rfl hc ?_
                refine EV_stq mx_103 (pc' := 93) (L' := [some (.ref p0), some (.int p1), some (.int p2), some (.int p3), some (.ref a3), some (.ref a9), some (.int ((((p1 * (3 : Int32)) + p2) * (3 : Int32)) + p3))]) (st' := [.null]) bo_103_82_695807 rfl ?_
                obtain rfl := Option.some.inj h
                exact r_ret mx_103 li_103_93 rfl rfl
              · refine r_ifF mx_103 li_103_69 (by decide) hc ?_
                refine EV_stq mx_103 (pc' := 75) (L' := [some (.ref p0), some (.int p1), some (.int p2), some (.int p3), some (.ref a3), some (.ref a9), some (.int ((((p1 * (3 : Int32)) + p2) * (3 : Int32)) + p3))]) (st' := [.ref p0, .int ((((p1 * (3 : Int32)) + p2) * (3 : Int32)) + p3)]) bo_103_72_9ed66b rfl ?_
                refine r_gA mx_103 li_103_75 fd_10_35 rfl h (fun a12 h => ?_)
                refine r_aN mx_103 li_103_78 h (fun v13 h => ?_)
                refine h_lt h (fun h hc => ?_) (fun h hc => ?_)
                · refine r_icT mx_103 li_103_79 (by decide) rfl hc ?_
                  refine EV_stq mx_103 (pc' := 87) (L' := [some (.ref p0), some (.int p1), some (.int p2), some (.int p3), some (.ref a3), some (.ref a9), some (.int ((((p1 * (3 : Int32)) + p2) * (3 : Int32)) + p3))]) (st' := [.ref p0]) bo_103_86_bff005 rfl ?_
                  refine r_gA mx_103 li_103_87 fd_10_35 rfl h (fun a14 h => ?_)
                  refine EV_stq mx_103 (pc' := 92) (L' := [some (.ref p0), some (.int p1), some (.int p2), some (.int p3), some (.ref a3), some (.ref a9), some (.int ((((p1 * (3 : Int32)) + p2) * (3 : Int32)) + p3))]) (st' := [.int ((((p1 * (3 : Int32)) + p2) * (3 : Int32)) + p3), .ref a14]) bo_103_90_d3b5bf rfl ?_
                  refine r_aA mx_103 li_103_92 h (fun a15 h => ?_)
                  obtain rfl := Option.some.inj h
                  exact r_ret mx_103 li_103_93 rfl rfl
                · refine r_icF mx_103 li_103_79 (by decide) hc ?_
                  refine EV_stq mx_103 (pc' := 93) (L' := [some (.ref p0), some (.int p1), some (.int p2), some (.int p3), some (.ref a3), some (.ref a9), some (.int ((((p1 * (3 : Int32)) + p2) * (3 : Int32)) + p3))]) (st' := [.null]) bo_103_82_695807 rfl ?_
                  obtain rfl := Option.some.inj h
                  exact r_ret mx_103 li_103_93 rfl rfl
            · refine r_icF mx_103 li_103_51 (by decide) hc ?_
              refine EV_stq mx_103 (pc' := 55) (L' := [some (.ref p0), some (.int p1), some (.int p2), some (.int p3), some (.ref a3), some (.ref a9), none]) (st' := [.null]) bo_103_54_02ca38 rfl ?_
              obtain rfl := Option.some.inj h
              exact r_ret mx_103 li_103_55 rfl rfl
theorem e_ch_takesRecord {d : Nat} (hd : 1 ≤ d) (p0 : Nat) (M : Mem) (r : Int32 × Mem) (h : f_ch_takesRecord p0 M = some r) : EV d 104 0 (entL 1 [.ref p0]) [] M (some (.int r.1), r.2) := by
  show EV d 104 0 [some (.ref p0)] [] M _
  unfold f_ch_takesRecord at h
  refine EV_stq mx_104 (pc' := 1) (L' := [some (.ref p0)]) (st' := [.ref p0]) bo_104_0_8d5162 rfl ?_
  refine r_gI mx_104 li_104_1 fd_9_35 ⟨by decide, by decide⟩ h (fun v1 h => ?_)
  refine EV_stq mx_104 (pc' := 5) (L' := [some (.ref p0)]) (st' := [.ref p0, .int v1]) bo_104_4_e962e2 rfl ?_
  refine r_gA mx_104 li_104_5 fd_9_22 rfl h (fun a2 h => ?_)
  refine r_gI mx_104 li_104_8 fd_9_38 ⟨by decide, by decide⟩ h (fun v3 h => ?_)
  refine h_lt h (fun h hc => ?_) (fun h hc => ?_)
  · refine r_icT mx_104 li_104_11 (by decide) rfl hc ?_
    refine EV_stq mx_104 (pc' := 26) (L' := [some (.ref p0)]) (st' := [.int (1 : Int32)]) bo_104_21_13696e rfl ?_
    obtain rfl := Option.some.inj h
    exact r_ret mx_104 li_104_26 rfl (ro_nar (t := .boolean) (by decide) rfl)
  · refine r_icF mx_104 li_104_11 (by decide) hc ?_
    refine EV_stq mx_104 (pc' := 15) (L' := [some (.ref p0)]) (st' := [.ref p0]) bo_104_14_3e81ce rfl ?_
    refine h_ck h (fun hc h => ?_)
    refine h_cI h (fun v5 M4 e h => ?_)
    refine EV_call [.ref p0] [] mx_104 li_104_15 rfl rfl si_9_41 rfl (by decide) (by decide) (by omega) ma_94 rfl (Nat.le_of_ble_eq_true rfl) rfl rfl (Nat.le_of_ble_eq_true rfl) (rc_1 mt_at_94 rfl rfl (by decide) hc) (e_ch_hasRoom (by omega) p0 M _ e) ?_
    show EV d 104 18 [some (.ref p0)] [.int v5] M4 _
    refine h_eq h (fun h hc => ?_) (fun h hc => ?_)
    · refine r_ifT mx_104 li_104_18 (by decide) rfl hc ?_
      refine EV_stq mx_104 (pc' := 26) (L' := [some (.ref p0)]) (st' := [.int (0 : Int32)]) bo_104_25_1858f6 rfl ?_
      obtain rfl := Option.some.inj h
      exact r_ret mx_104 li_104_26 rfl (ro_nar (t := .boolean) (by decide) rfl)
    · refine r_ifF mx_104 li_104_18 (by decide) hc ?_
      refine EV_stq mx_104 (pc' := 26) (L' := [some (.ref p0)]) (st' := [.int (1 : Int32)]) bo_104_21_13696e rfl ?_
      obtain rfl := Option.some.inj h
      exact r_ret mx_104 li_104_26 rfl (ro_nar (t := .boolean) (by decide) rfl)
theorem e_rc_valueAt {d : Nat} (hd : 0 ≤ d) (p0 : Nat) (p1 : Int32) (M : Mem) (r : Int32 × Mem) (h : f_rc_valueAt p0 p1 M = some r) : EV d 105 0 (entL 2 [.ref p0, .int p1]) [] M (some (.int r.1), r.2) := by
  show EV d 105 0 [some (.ref p0), some (.int p1)] [] M _
  unfold f_rc_valueAt at h
  refine EV_stq mx_105 (pc' := 1) (L' := [some (.ref p0), some (.int p1)]) (st' := [.ref p0]) bo_105_0_8d5162 rfl ?_
  refine r_gA mx_105 li_105_1 fd_4_13 rfl h (fun a1 h => ?_)
  refine EV_stq mx_105 (pc' := 5) (L' := [some (.ref p0), some (.int p1)]) (st' := [.ref p0, .ref a1]) bo_105_4_e962e2 rfl ?_
  refine r_gI mx_105 li_105_5 fd_4_26 ⟨by decide, by decide⟩ h (fun v2 h => ?_)
  refine EV_stq mx_105 (pc' := 11) (L' := [some (.ref p0), some (.int p1)]) (st' := [.ref p0, .int (v2 + p1), .ref a1]) bo_105_8_325fca rfl ?_
  refine r_gI mx_105 li_105_11 fd_4_19 ⟨by decide, by decide⟩ h (fun v3 h => ?_)
  refine EV_stq mx_105 (pc' := 15) (L' := [some (.ref p0), some (.int p1)]) (st' := [.int ((v2 + p1) &&& v3), .ref a1]) bo_105_14_3e81ce rfl ?_
  refine r_aI mx_105 li_105_15 h (fun v4 h => ?_)
  obtain rfl := Option.some.inj h
  exact r_ret mx_105 li_105_16 rfl ro_int
theorem e_rc_birthAt {d : Nat} (hd : 0 ≤ d) (p0 : Nat) (p1 : Int32) (M : Mem) (r : Int32 × Mem) (h : f_rc_birthAt p0 p1 M = some r) : EV d 106 0 (entL 2 [.ref p0, .int p1]) [] M (some (.int r.1), r.2) := by
  show EV d 106 0 [some (.ref p0), some (.int p1)] [] M _
  unfold f_rc_birthAt at h
  refine EV_stq mx_106 (pc' := 1) (L' := [some (.ref p0), some (.int p1)]) (st' := [.ref p0]) bo_106_0_8d5162 rfl ?_
  refine r_gA mx_106 li_106_1 fd_4_16 rfl h (fun a1 h => ?_)
  refine EV_stq mx_106 (pc' := 5) (L' := [some (.ref p0), some (.int p1)]) (st' := [.ref p0, .ref a1]) bo_106_4_e962e2 rfl ?_
  refine r_gI mx_106 li_106_5 fd_4_26 ⟨by decide, by decide⟩ h (fun v2 h => ?_)
  refine EV_stq mx_106 (pc' := 11) (L' := [some (.ref p0), some (.int p1)]) (st' := [.ref p0, .int (v2 + p1), .ref a1]) bo_106_8_325fca rfl ?_
  refine r_gI mx_106 li_106_11 fd_4_19 ⟨by decide, by decide⟩ h (fun v3 h => ?_)
  refine EV_stq mx_106 (pc' := 15) (L' := [some (.ref p0), some (.int p1)]) (st' := [.int ((v2 + p1) &&& v3), .ref a1]) bo_106_14_3e81ce rfl ?_
  refine r_aI mx_106 li_106_15 h (fun v4 h => ?_)
  obtain rfl := Option.some.inj h
  exact r_ret mx_106 li_106_16 rfl ro_int
theorem e_ch_putRecord_18 {d : Nat} (hd : 2 ≤ d) (l0 : Nat) (l1 : Int32) (l2 : Int32) (l3 : Int32) (M : Mem) (r : Mem) (h : f_ch_putRecord_18 l0 l1 l2 l3 M = some r) : EV d 107 18 [some (.ref l0), some (.int l1), some (.int l2), some (.int l3)] [] M (none, r) := by
  unfold f_ch_putRecord_18 at h
  refine EV_stq mx_107 (pc' := 19) (L' := [some (.ref l0), some (.int l1), some (.int l2), some (.int l3)]) (st' := [.ref l0]) bo_107_18_2b31d8 rfl ?_
  refine r_gA mx_107 li_107_19 fd_9_12 rfl h (fun a1 h => ?_)
  refine EV_stq mx_107 (pc' := 25) (L' := [some (.ref l0), some (.int l1), some (.int l2), some (.int l3)]) (st' := [.int l3, .int l2, .int l1, .ref a1]) bo_107_22_8489d5 rfl ?_
  refine h_ck h (fun hc h => ?_)
  refine h_cV h (fun M2 e h => ?_)
  refine EV_call [.ref a1, .int l1, .int l2, .int l3] [] mx_107 li_107_25 rfl rfl si_9_48 rfl (by decide) (by decide) (by omega) ma_86 rfl (Nat.le_of_ble_eq_true rfl) rfl rfl (Nat.le_of_ble_eq_true rfl) (rc_1 mt_at_86 rfl rfl (by decide) hc) (e_rc_add (by omega) a1 l1 l2 l3 M _ e) ?_
  show EV d 107 28 [some (.ref l0), some (.int l1), some (.int l2), some (.int l3)] [] M2 _
  refine EV_stq mx_107 (pc' := 30) (L' := [some (.ref l0), some (.int l1), some (.int l2), some (.int l3)]) (st' := [.ref l0, .ref l0]) bo_107_28_533662 rfl ?_
  refine r_gI mx_107 li_107_30 fd_9_35 ⟨by decide, by decide⟩ h (fun v3 h => ?_)
  refine EV_stq mx_107 (pc' := 35) (L' := [some (.ref l0), some (.int l1), some (.int l2), some (.int l3)]) (st' := [.int (v3 + (1 : Int32)), .ref l0]) bo_107_33_9ed66c rfl ?_
  refine r_pI mx_107 li_107_35 fd_9_35 (Or.inl rfl) rfl h (fun M4 h => ?_)
  refine EV_stq mx_107 (pc' := 39) (L' := [some (.ref l0), some (.int l1), some (.int l2), some (.int l3)]) (st' := [.ref l0]) bo_107_38_c8c763 rfl ?_
  refine r_gI mx_107 li_107_39 fd_9_35 ⟨by decide, by decide⟩ h (fun v5 h => ?_)
  refine EV_stq mx_107 (pc' := 43) (L' := [some (.ref l0), some (.int l1), some (.int l2), some (.int l3)]) (st' := [.ref l0, .int v5]) bo_107_42_b358e7 rfl ?_
  refine r_gA mx_107 li_107_43 fd_9_22 rfl h (fun a6 h => ?_)
  refine r_gI mx_107 li_107_46 fd_9_38 ⟨by decide, by decide⟩ h (fun v7 h => ?_)
  refine h_lt h (fun h hc => ?_) (fun h hc => ?_)
  · refine r_icT mx_107 li_107_49 (by decide) rfl hc ?_
    obtain rfl := Option.some.inj h
    exact r_ret mx_107 li_107_63 rfl rfl
  · refine r_icF mx_107 li_107_49 (by decide) hc ?_
    refine EV_stq mx_107 (pc' := 53) (L' := [some (.ref l0), some (.int l1), some (.int l2), some (.int l3)]) (st' := [.ref l0]) bo_107_52_118d3f rfl ?_
    refine h_ck h (fun hc h => ?_)
    refine h_cI h (fun v9 M8 e h => ?_)
    refine EV_call [.ref l0] [] mx_107 li_107_53 rfl rfl si_9_41 rfl (by decide) (by decide) (by omega) ma_94 rfl (Nat.le_of_ble_eq_true rfl) rfl rfl (Nat.le_of_ble_eq_true rfl) (rc_1 mt_at_94 rfl rfl (by decide) hc) (e_ch_hasRoom (by omega) l0 M4 _ e) ?_
    show EV d 107 56 [some (.ref l0), some (.int l1), some (.int l2), some (.int l3)] [.int v9] M8 _
    refine h_eq h (fun h hc => ?_) (fun h hc => ?_)
    · refine r_ifT mx_107 li_107_56 (by decide) rfl hc ?_
      obtain rfl := Option.some.inj h
      exact r_ret mx_107 li_107_63 rfl rfl
    · refine r_ifF mx_107 li_107_56 (by decide) hc ?_
      refine EV_stq mx_107 (pc' := 60) (L' := [some (.ref l0), some (.int l1), some (.int l2), some (.int l3)]) (st' := [.ref l0]) bo_107_59_8c3b95 rfl ?_
      refine h_ck h (fun hc h => ?_)
      refine h_cV h (fun M10 e h => ?_)
      refine EV_call [.ref l0] [] mx_107 li_107_60 rfl rfl si_9_45 rfl (by decide) (by decide) (by omega) ma_96 rfl (Nat.le_of_ble_eq_true rfl) rfl rfl (Nat.le_of_ble_eq_true rfl) (rc_1 mt_at_96 rfl rfl (by decide) hc) (e_ch_closeOpen (by omega) l0 M8 _ e) ?_
      show EV d 107 63 [some (.ref l0), some (.int l1), some (.int l2), some (.int l3)] [] M10 _
      obtain rfl := Option.some.inj h
      exact r_ret mx_107 li_107_63 rfl rfl
theorem e_ch_putRecord {d : Nat} (hd : 2 ≤ d) (p0 : Nat) (p1 : Int32) (p2 : Int32) (p3 : Int32) (M : Mem) (r : Mem) (h : f_ch_putRecord p0 p1 p2 p3 M = some r) : EV d 107 0 (entL 4 [.ref p0, .int p1, .int p2, .int p3]) [] M (none, r) := by
  show EV d 107 0 [some (.ref p0), some (.int p1), some (.int p2), some (.int p3)] [] M _
  unfold f_ch_putRecord at h
  refine EV_stq mx_107 (pc' := 1) (L' := [some (.ref p0), some (.int p1), some (.int p2), some (.int p3)]) (st' := [.ref p0]) bo_107_0_8d5162 rfl ?_
  refine r_gI mx_107 li_107_1 fd_9_35 ⟨by decide, by decide⟩ h (fun v1 h => ?_)
  refine EV_stq mx_107 (pc' := 5) (L' := [some (.ref p0), some (.int p1), some (.int p2), some (.int p3)]) (st' := [.ref p0, .int v1]) bo_107_4_e962e2 rfl ?_
  refine r_gA mx_107 li_107_5 fd_9_22 rfl h (fun a2 h => ?_)
  refine r_gI mx_107 li_107_8 fd_9_38 ⟨by decide, by decide⟩ h (fun v3 h => ?_)
  refine h_lt h (fun h hc => ?_) (fun h hc => ?_)
  · refine r_icT mx_107 li_107_11 (by decide) rfl hc ?_
    exact e_ch_putRecord_18 hd p0 p1 p2 p3 M r h
  · refine r_icF mx_107 li_107_11 (by decide) hc ?_
    refine EV_stq mx_107 (pc' := 15) (L' := [some (.ref p0), some (.int p1), some (.int p2), some (.int p3)]) (st' := [.ref p0]) bo_107_14_3e81ce rfl ?_
    refine h_ck h (fun hc h => ?_)
    refine h_cV h (fun M4 e h => ?_)
    refine EV_call [.ref p0] [] mx_107 li_107_15 rfl rfl si_9_45 rfl (by decide) (by decide) (by omega) ma_96 rfl (Nat.le_of_ble_eq_true rfl) rfl rfl (Nat.le_of_ble_eq_true rfl) (rc_1 mt_at_96 rfl rfl (by decide) hc) (e_ch_closeOpen (by omega) p0 M _ e) ?_
    show EV d 107 18 [some (.ref p0), some (.int p1), some (.int p2), some (.int p3)] [] M4 _
    exact e_ch_putRecord_18 hd p0 p1 p2 p3 M4 r h
theorem e_rc_removeFirst {d : Nat} (hd : 0 ≤ d) (p0 : Nat) (M : Mem) (r : Mem) (h : f_rc_removeFirst p0 M = some r) : EV d 108 0 (entL 1 [.ref p0]) [] M (none, r) := by
  show EV d 108 0 [some (.ref p0)] [] M _
  unfold f_rc_removeFirst at h
  refine EV_stq mx_108 (pc' := 1) (L' := [some (.ref p0)]) (st' := [.ref p0]) bo_108_0_8d5162 rfl ?_
  refine r_gI mx_108 li_108_1 fd_4_23 ⟨by decide, by decide⟩ h (fun v1 h => ?_)
  refine h_le h (fun h hc => ?_) (fun h hc => ?_)
  · refine r_ifT mx_108 li_108_4 (by decide) rfl hc ?_
    obtain rfl := Option.some.inj h
    exact r_ret mx_108 li_108_32 rfl rfl
  · refine r_ifF mx_108 li_108_4 (by decide) hc ?_
    refine EV_stq mx_108 (pc' := 9) (L' := [some (.ref p0)]) (st' := [.ref p0, .ref p0]) bo_108_7_7eef78 rfl ?_
    refine r_gI mx_108 li_108_9 fd_4_26 ⟨by decide, by decide⟩ h (fun v2 h => ?_)
    refine EV_stq mx_108 (pc' := 15) (L' := [some (.ref p0)]) (st' := [.ref p0, .int (v2 + (1 : Int32)), .ref p0]) bo_108_12_76c768 rfl ?_
    refine r_gI mx_108 li_108_15 fd_4_19 ⟨by decide, by decide⟩ h (fun v3 h => ?_)
    refine EV_stq mx_108 (pc' := 19) (L' := [some (.ref p0)]) (st' := [.int ((v2 + (1 : Int32)) &&& v3), .ref p0]) bo_108_18_2b31d8 rfl ?_
    refine r_pI mx_108 li_108_19 fd_4_26 (Or.inl rfl) rfl h (fun M4 h => ?_)
    refine EV_stq mx_108 (pc' := 24) (L' := [some (.ref p0)]) (st' := [.ref p0, .ref p0]) bo_108_22_13b32e rfl ?_
    refine r_gI mx_108 li_108_24 fd_4_23 ⟨by decide, by decide⟩ h (fun v5 h => ?_)
    refine EV_stq mx_108 (pc' := 29) (L' := [some (.ref p0)]) (st' := [.int (v5 - (1 : Int32)), .ref p0]) bo_108_27_fe3fdb rfl ?_
    refine r_pI mx_108 li_108_29 fd_4_23 (Or.inl rfl) rfl h (fun M6 h => ?_)
    obtain rfl := Option.some.inj h
    exact r_ret mx_108 li_108_32 rfl rfl
theorem e_sm_sendList_112 {d : Nat} (hd : 3 ≤ d) (k16 : Nat → Int32 → Int32 → Nat → Nat → Int32 → Int32 → Mem → Option (Int32 × Mem)) (hk16 : ∀ l0 l1 l2 l3 l4 l5 l6 M r, k16 l0 l1 l2 l3 l4 l5 l6 M = some r → EV d 109 16 [some (.ref l0), some (.int l1), some (.int l2), some (.ref l3), some (.ref l4), some (.int l5), some (.int l6), none, none] [] M (some (.int r.1), r.2)) (l0 : Nat) (l1 : Int32) (l2 : Int32) (l3 : Nat) (l4 : Nat) (l5 : Int32) (l6 : Int32) (M : Mem) (r : Int32 × Mem) (h : f_sm_sendList_112 k16 l0 l1 l2 l3 l4 l5 l6 M = some r) : EV d 109 112 [some (.ref l0), some (.int l1), some (.int l2), some (.ref l3), some (.ref l4), some (.int l5), some (.int l6), none, none] [] M (some (.int r.1), r.2) := by
  unfold f_sm_sendList_112 at h
  refine EV_stq mx_109 (pc' := 16) (L' := [some (.ref l0), some (.int l1), some (.int l2), some (.ref l3), some (.ref l4), some (.int l5), some (.int (l6 + (1 : Int32))), none, none]) (st' := []) bo_109_112_ffcc5a rfl ?_
  exact hk16 l0 l1 l2 l3 l4 l5 (l6 + (1 : Int32)) M r h
theorem e_sm_sendList_16 {d : Nat} (hd : 3 ≤ d) : ∀ (n : Nat) (l0 : Nat) (l1 : Int32) (l2 : Int32) (l3 : Nat) (l4 : Nat) (l5 : Int32) (l6 : Int32) (M : Mem) (r : Int32 × Mem), f_sm_sendList_16 n l0 l1 l2 l3 l4 l5 l6 M = some r → EV d 109 16 [some (.ref l0), some (.int l1), some (.int l2), some (.ref l3), some (.ref l4), some (.int l5), some (.int l6), none, none] [] M (some (.int r.1), r.2) := by
  intro n
  induction n with
  | zero => intro l0 l1 l2 l3 l4 l5 l6 M r h; cases h
  | succ n ih =>
    intro l0 l1 l2 l3 l4 l5 l6 M r h
    unfold f_sm_sendList_16 at h
    refine EV_stq mx_109 (pc' := 20) (L' := [some (.ref l0), some (.int l1), some (.int l2), some (.ref l3), some (.ref l4), some (.int l5), some (.int l6), none, none]) (st' := [.int l5, .int l6]) bo_109_16_762e9e rfl ?_
    refine h_ge h (fun h hc => ?_) (fun h hc => ?_)
    · refine r_icT mx_109 li_109_20 (by decide) rfl hc ?_
      refine EV_stq mx_109 (pc' := 119) (L' := [some (.ref l0), some (.int l1), some (.int l2), some (.ref l3), some (.ref l4), some (.int l5), some (.int l6), none, none]) (st' := [.int (1 : Int32)]) bo_109_118_c412ec rfl ?_
      obtain rfl := Option.some.inj h
      exact r_ret mx_109 li_109_119 rfl (ro_nar (t := .boolean) (by decide) rfl)
    · refine r_icF mx_109 li_109_20 (by decide) hc ?_
      refine EV_stq mx_109 (pc' := 27) (L' := [some (.ref l0), some (.int l1), some (.int l2), some (.ref l3), some (.ref l4), some (.int l5), some (.int l6), none, none]) (st' := [.int (l1 + (1 : Int32)), .ref l0]) bo_109_23_2d99ef rfl ?_
      refine h_ck h (fun hc h => ?_)
      refine h_cR h (fun o2 M1 e h => ?_)
      refine EV_call [.ref l0, .int (l1 + (1 : Int32))] [] mx_109 li_109_27 rfl rfl si_10_54 rfl (by decide) (by decide) (by omega) ma_56 rfl (Nat.le_of_ble_eq_true rfl) rfl rfl (Nat.le_of_ble_eq_true rfl) (rc_1 mt_at_56 rfl rfl (by decide) hc) (e_sm_operatorAt (by omega) l0 (l1 + (1 : Int32)) M _ e) ?_
      refine h_onR (G := fun o => EV d 109 30 [some (.ref l0), some (.int l1), some (.int l2), some (.ref l3), some (.ref l4), some (.int l5), some (.int l6), none, none] [rfv o] M1 _) h (fun h => ?_) (fun a3 h => ?_)
      · refine EV_stq mx_109 (pc' := 38) (L' := [some (.ref l0), some (.int l1), some (.int l2), some (.ref l3), some (.ref l4), some (.int l5), some (.int l6), some (.null), none]) (st' := [.ref l3, .int l1, .ref l0, .int l2, .int l1, .ref l0]) bo_109_30_4ab3a1 rfl ?_
        refine h_ck h (fun hc h => ?_)
        refine h_cI h (fun v5 M4 e h => ?_)
        refine EV_call [.ref l0, .int l1, .ref l3] [.int l2, .int l1, .ref l0] mx_109 li_109_38 rfl rfl si_10_247 rfl (by decide) (by decide) (by omega) ma_102 rfl (Nat.le_of_ble_eq_true rfl) rfl rfl (Nat.le_of_ble_eq_true rfl) (rc_1 mt_at_102 rfl rfl (by decide) hc) (e_sm_targetOf (by omega) l0 l1 l3 M1 _ e) ?_
        show EV d 109 41 [some (.ref l0), some (.int l1), some (.int l2), some (.ref l3), some (.ref l4), some (.int l5), some (.int l6), some (.null), none] [.int v5, .int l2, .int l1, .ref l0] M4 _
        refine h_ck h (fun hc h => ?_)
        refine h_cR h (fun o7 M6 e h => ?_)
        refine EV_call [.ref l0, .int l1, .int l2, .int v5] [] mx_109 li_109_41 rfl rfl si_10_205 rfl (by decide) (by decide) (by omega) ma_103 rfl (Nat.le_of_ble_eq_true rfl) rfl rfl (Nat.le_of_ble_eq_true rfl) (rc_1 mt_at_103 rfl rfl (by decide) hc) (e_sm_channelAt (by omega) l0 l1 l2 v5 M4 _ e) ?_
        refine h_onR (G := fun o => EV d 109 44 [some (.ref l0), some (.int l1), some (.int l2), some (.ref l3), some (.ref l4), some (.int l5), some (.int l6), some (.null), none] [rfv o] M6 _) h (fun h => ?_) (fun a8 h => ?_)
        · refine EV_stq mx_109 (pc' := 65) (L' := [some (.ref l0), some (.int l1), some (.int l2), some (.ref l3), some (.ref l4), some (.int l5), some (.int l6), some (.null), some (.null)]) (st' := [.int (0 : Int32)]) bo_109_44_a2cb8a rfl ?_
          obtain rfl := Option.some.inj h
          exact r_ret mx_109 li_109_65 rfl (ro_nar (t := .boolean) (by decide) rfl)
        · refine EV_stq mx_109 (pc' := 65) (L' := [some (.ref l0), some (.int l1), some (.int l2), some (.ref l3), some (.ref l4), some (.int l5), some (.int l6), some (.null), some (.ref a8)]) (st' := [.int (0 : Int32)]) bo_109_44_a2cb8a rfl ?_
          obtain rfl := Option.some.inj h
          exact r_ret mx_109 li_109_65 rfl (ro_nar (t := .boolean) (by decide) rfl)
      · refine EV_stq mx_109 (pc' := 38) (L' := [some (.ref l0), some (.int l1), some (.int l2), some (.ref l3), some (.ref l4), some (.int l5), some (.int l6), some (.ref a3), none]) (st' := [.ref l3, .int l1, .ref l0, .int l2, .int l1, .ref l0]) bo_109_30_4ab3a1 rfl ?_
        refine h_ck h (fun hc h => ?_)
        refine h_cI h (fun v10 M9 e h => ?_)
        refine EV_call [.ref l0, .int l1, .ref l3] [.int l2, .int l1, .ref l0] mx_109 li_109_38 rfl rfl si_10_247 rfl (by decide) (by decide) (by omega) ma_102 rfl (Nat.le_of_ble_eq_true rfl) rfl rfl (Nat.le_of_ble_eq_true rfl) (rc_1 mt_at_102 rfl rfl (by decide) hc) (e_sm_targetOf (by omega) l0 l1 l3 M1 _ e) ?_
        show EV d 109 41 [some (.ref l0), some (.int l1), some (.int l2), some (.ref l3), some (.ref l4), some (.int l5), some (.int l6), some (.ref a3), none] [.int v10, .int l2, .int l1, .ref l0] M9 _
        refine h_ck h (fun hc h => ?_)
        refine h_cR h (fun o12 M11 e h => ?_)
        refine EV_call [.ref l0, .int l1, .int l2, .int v10] [] mx_109 li_109_41 rfl rfl si_10_205 rfl (by decide) (by decide) (by omega) ma_103 rfl (Nat.le_of_ble_eq_true rfl) rfl rfl (Nat.le_of_ble_eq_true rfl) (rc_1 mt_at_103 rfl rfl (by decide) hc) (e_sm_channelAt (by omega) l0 l1 l2 v10 M9 _ e) ?_
        refine h_onR (G := fun o => EV d 109 44 [some (.ref l0), some (.int l1), some (.int l2), some (.ref l3), some (.ref l4), some (.int l5), some (.int l6), some (.ref a3), none] [rfv o] M11 _) h (fun h => ?_) (fun a13 h => ?_)
        · refine EV_stq mx_109 (pc' := 65) (L' := [some (.ref l0), some (.int l1), some (.int l2), some (.ref l3), some (.ref l4), some (.int l5), some (.int l6), some (.ref a3), some (.null)]) (st' := [.int (0 : Int32)]) bo_109_44_ca072b rfl ?_
          obtain rfl := Option.some.inj h
          exact r_ret mx_109 li_109_65 rfl (ro_nar (t := .boolean) (by decide) rfl)
        · refine EV_stq mx_109 (pc' := 58) (L' := [some (.ref l0), some (.int l1), some (.int l2), some (.ref l3), some (.ref l4), some (.int l5), some (.int l6), some (.ref a3), some (.ref a13)]) (st' := [.ref a13]) bo_109_44_57697c rfl ?_
          refine h_ck h (fun hc h => ?_)
          refine h_cI h (fun v15 M14 e h => ?_)
          refine EV_call [.ref a13] [] mx_109 li_109_58 rfl rfl si_10_251 rfl (by decide) (by decide) (by omega) ma_104 rfl (Nat.le_of_ble_eq_true rfl) rfl rfl (Nat.le_of_ble_eq_true rfl) (rc_1 mt_at_104 rfl rfl (by decide) hc) (e_ch_takesRecord (by omega) a13 M11 _ e) ?_
          show EV d 109 61 [some (.ref l0), some (.int l1), some (.int l2), some (.ref l3), some (.ref l4), some (.int l5), some (.int l6), some (.ref a3), some (.ref a13)] [.int v15] M14 _
          refine h_ne h (fun h hc => ?_) (fun h hc => ?_)
          · refine r_ifF mx_109 li_109_61 (by decide) hc ?_
            refine EV_stq mx_109 (pc' := 65) (L' := [some (.ref l0), some (.int l1), some (.int l2), some (.ref l3), some (.ref l4), some (.int l5), some (.int l6), some (.ref a3), some (.ref a13)]) (st' := [.int (0 : Int32)]) bo_109_64_446f01 rfl ?_
            obtain rfl := Option.some.inj h
            exact r_ret mx_109 li_109_65 rfl (ro_nar (t := .boolean) (by decide) rfl)
          · refine r_ifT mx_109 li_109_61 (by decide) rfl hc ?_
            refine EV_stq mx_109 (pc' := 71) (L' := [some (.ref l0), some (.int l1), some (.int l2), some (.ref l3), some (.ref l4), some (.int l5), some (.int l6), some (.ref a3), some (.ref a13)]) (st' := [.int (0 : Int32), .ref l4, .ref a13]) bo_109_66_545b3a rfl ?_
            refine h_ck h (fun hc h => ?_)
            refine h_cI h (fun v17 M16 e h => ?_)
            refine EV_call [.ref l4, .int (0 : Int32)] [.ref a13] mx_109 li_109_71 rfl rfl si_10_193 rfl (by decide) (by decide) (by omega) ma_99 rfl (Nat.le_of_ble_eq_true rfl) rfl rfl (Nat.le_of_ble_eq_true rfl) (rc_1 mt_at_99 rfl rfl (by decide) hc) (e_rc_keyAt (by omega) l4 (0 : Int32) M14 _ e) ?_
            show EV d 109 74 [some (.ref l0), some (.int l1), some (.int l2), some (.ref l3), some (.ref l4), some (.int l5), some (.int l6), some (.ref a3), some (.ref a13)] [.int v17, .ref a13] M16 _
            refine EV_stq mx_109 (pc' := 77) (L' := [some (.ref l0), some (.int l1), some (.int l2), some (.ref l3), some (.ref l4), some (.int l5), some (.int l6), some (.ref a3), some (.ref a13)]) (st' := [.int (0 : Int32), .ref l4, .int v17, .ref a13]) bo_109_74_b63ff7 rfl ?_
            refine h_ck h (fun hc h => ?_)
            refine h_cI h (fun v19 M18 e h => ?_)
            refine EV_call [.ref l4, .int (0 : Int32)] [.int v17, .ref a13] mx_109 li_109_77 rfl rfl si_10_254 rfl (by decide) (by decide) (by omega) ma_105 rfl (Nat.le_of_ble_eq_true rfl) rfl rfl (Nat.le_of_ble_eq_true rfl) (rc_1 mt_at_105 rfl rfl (by decide) hc) (e_rc_valueAt (by omega) l4 (0 : Int32) M16 _ e) ?_
            show EV d 109 80 [some (.ref l0), some (.int l1), some (.int l2), some (.ref l3), some (.ref l4), some (.int l5), some (.int l6), some (.ref a3), some (.ref a13)] [.int v19, .int v17, .ref a13] M18 _
            refine EV_stq mx_109 (pc' := 83) (L' := [some (.ref l0), some (.int l1), some (.int l2), some (.ref l3), some (.ref l4), some (.int l5), some (.int l6), some (.ref a3), some (.ref a13)]) (st' := [.int (0 : Int32), .ref l4, .int v19, .int v17, .ref a13]) bo_109_80_2f63be rfl ?_
            refine h_ck h (fun hc h => ?_)
            refine h_cI h (fun v21 M20 e h => ?_)
            refine EV_call [.ref l4, .int (0 : Int32)] [.int v19, .int v17, .ref a13] mx_109 li_109_83 rfl rfl si_10_257 rfl (by decide) (by decide) (by omega) ma_106 rfl (Nat.le_of_ble_eq_true rfl) rfl rfl (Nat.le_of_ble_eq_true rfl) (rc_1 mt_at_106 rfl rfl (by decide) hc) (e_rc_birthAt (by omega) l4 (0 : Int32) M18 _ e) ?_
            show EV d 109 86 [some (.ref l0), some (.int l1), some (.int l2), some (.ref l3), some (.ref l4), some (.int l5), some (.int l6), some (.ref a3), some (.ref a13)] [.int v21, .int v19, .int v17, .ref a13] M20 _
            refine h_ck h (fun hc h => ?_)
            refine h_cV h (fun M22 e h => ?_)
            refine EV_call [.ref a13, .int v17, .int v19, .int v21] [] mx_109 li_109_86 rfl rfl si_10_260 rfl (by decide) (by decide) (by omega) ma_107 rfl (Nat.le_of_ble_eq_true rfl) rfl rfl (Nat.le_of_ble_eq_true rfl) (rc_1 mt_at_107 rfl rfl (by decide) hc) (e_ch_putRecord (by omega) a13 v17 v19 v21 M20 _ e) ?_
            show EV d 109 89 [some (.ref l0), some (.int l1), some (.int l2), some (.ref l3), some (.ref l4), some (.int l5), some (.int l6), some (.ref a3), some (.ref a13)] [] M22 _
            refine EV_stq mx_109 (pc' := 91) (L' := [some (.ref l0), some (.int l1), some (.int l2), some (.ref l3), some (.ref l4), some (.int l5), some (.int l6), some (.ref a3), some (.ref a13)]) (st' := [.ref l4]) bo_109_89_bbca9b rfl ?_
            refine h_ck h (fun hc h => ?_)
            refine h_cV h (fun M23 e h => ?_)
            refine EV_call [.ref l4] [] mx_109 li_109_91 rfl rfl si_10_264 rfl (by decide) (by decide) (by omega) ma_108 rfl (Nat.le_of_ble_eq_true rfl) rfl rfl (Nat.le_of_ble_eq_true rfl) (rc_1 mt_at_108 rfl rfl (by decide) hc) (e_rc_removeFirst (by omega) l4 M22 _ e) ?_
            show EV d 109 94 [some (.ref l0), some (.int l1), some (.int l2), some (.ref l3), some (.ref l4), some (.int l5), some (.int l6), some (.ref a3), some (.ref a13)] [] M23 _
            refine EV_stq mx_109 (pc' := 96) (L' := [some (.ref l0), some (.int l1), some (.int l2), some (.ref l3), some (.ref l4), some (.int l5), some (.int l6), some (.ref a3), some (.ref a13)]) (st' := [.ref a3]) bo_109_94_6615ab rfl ?_
            refine h_ck h (fun hc h => ?_)
            refine h_cI h (fun v25 M24 e h => ?_)
            refine EV_call [.ref a3] [] mx_109 li_109_96 rfl rfl si_10_190 rfl (by decide) (by decide) (by omega) ma_98 rfl (Nat.le_of_ble_eq_true rfl) rfl rfl (Nat.le_of_ble_eq_true rfl) (rc_1 mt_at_98 rfl rfl (by decide) hc) (e_op_isKeyed (by omega) a3 M23 _ e) ?_
            show EV d 109 99 [some (.ref l0), some (.int l1), some (.int l2), some (.ref l3), some (.ref l4), some (.int l5), some (.int l6), some (.ref a3), some (.ref a13)] [.int v25] M24 _
            refine h_ne h (fun h hc => ?_) (fun h hc => ?_)
            · refine r_ifF mx_109 li_109_99 (by decide) hc ?_
              refine EV_stq mx_109 (pc' := 104) (L' := [some (.ref l0), some (.int l1), some (.int l2), some (.ref l3), some (.ref l4), some (.int l5), some (.int l6), some (.ref a3), some (.ref a13)]) (st' := [.ref l3, .ref l3]) bo_109_102_036f47 rfl ?_
              refine r_gI mx_109 li_109_104 fd_10_145 ⟨by decide, by decide⟩ h (fun v26 h => ?_)
              refine EV_stq mx_109 (pc' := 109) (L' := [some (.ref l0), some (.int l1), some (.int l2), some (.ref l3), some (.ref l4), some (.int l5), some (.int l6), some (.ref a3), some (.ref a13)]) (st' := [.int (v26 + (1 : Int32)), .ref l3]) bo_109_107_68dab3 rfl ?_
              refine r_pI mx_109 li_109_109 fd_10_145 (Or.inl rfl) rfl h (fun M27 h => ?_)
              refine EV_forget (A := [some (.ref l0), some (.int l1), some (.int l2), some (.ref l3), some (.ref l4), some (.int l5), some (.int l6), none, none]) (lsub_of _ _ ⟨Or.inr rfl, ⟨Or.inr rfl, ⟨Or.inr rfl, ⟨Or.inr rfl, ⟨Or.inr rfl, ⟨Or.inr rfl, ⟨Or.inr rfl, ⟨Or.inl rfl, ⟨Or.inl rfl, trivial⟩⟩⟩⟩⟩⟩⟩⟩⟩) ?_
              exact e_sm_sendList_112 hd _ ih l0 l1 l2 l3 l4 l5 l6 M27 r h
            · refine r_ifT mx_109 li_109_99 (by decide) rfl hc ?_
              refine EV_forget (A := [some (.ref l0), some (.int l1), some (.int l2), some (.ref l3), some (.ref l4), some (.int l5), some (.int l6), none, none]) (lsub_of _ _ ⟨Or.inr rfl, ⟨Or.inr rfl, ⟨Or.inr rfl, ⟨Or.inr rfl, ⟨Or.inr rfl, ⟨Or.inr rfl, ⟨Or.inr rfl, ⟨Or.inl rfl, ⟨Or.inl rfl, trivial⟩⟩⟩⟩⟩⟩⟩⟩⟩) ?_
              exact e_sm_sendList_112 hd _ ih l0 l1 l2 l3 l4 l5 l6 M24 r h
theorem e_sm_sendList {d : Nat} (hd : 3 ≤ d) (p0 : Nat) (p1 : Int32) (p2 : Int32) (p3 : Nat) (M : Mem) (r : Int32 × Mem) (h : f_sm_sendList p0 p1 p2 p3 M = some r) : EV d 109 0 (entL 9 [.ref p0, .int p1, .int p2, .ref p3]) [] M (some (.int r.1), r.2) := by
  show EV d 109 0 [some (.ref p0), some (.int p1), some (.int p2), some (.ref p3), none, none, none, none, none] [] M _
  unfold f_sm_sendList at h
  refine EV_stq mx_109 (pc' := 1) (L' := [some (.ref p0), some (.int p1), some (.int p2), some (.ref p3), none, none, none, none, none]) (st' := [.ref p3]) bo_109_0_8d5162 rfl ?_
  refine r_gA mx_109 li_109_1 fd_10_168 rfl h (fun a1 h => ?_)
  refine EV_stq mx_109 (pc' := 8) (L' := [some (.ref p0), some (.int p1), some (.int p2), some (.ref p3), some (.ref a1), none, none, none, none]) (st' := [.ref a1]) bo_109_4_00941c rfl ?_
  refine r_gI mx_109 li_109_8 fd_10_156 ⟨by decide, by decide⟩ h (fun v2 h => ?_)
  refine EV_stq mx_109 (pc' := 16) (L' := [some (.ref p0), some (.int p1), some (.int p2), some (.ref p3), some (.ref a1), some (.int v2), some (.int (0 : Int32)), none, none]) (st' := []) bo_109_11_c85c88 rfl ?_
  exact e_sm_sendList_16 hd FU p0 p1 p2 p3 a1 v2 (0 : Int32) M r h
theorem e_ch_takesBarrier_12 {d : Nat} (hd : 0 ≤ d) (l0 : Nat) (s0 : Int32) (M : Mem) (r : Int32 × Mem) (h : f_ch_takesBarrier_12 l0 s0 M = some r) : EV d 110 12 [some (.ref l0), none] [.int s0] M (some (.int r.1), r.2) := by
  unfold f_ch_takesBarrier_12 at h
  refine EV_stq mx_110 (pc' := 14) (L' := [some (.ref l0), some (.int s0)]) (st' := [.ref l0]) bo_110_12_1089ca rfl ?_
  refine r_gI mx_110 li_110_14 fd_9_26 ⟨by decide, by decide⟩ h (fun v1 h => ?_)
  refine EV_stq mx_110 (pc' := 20) (L' := [some (.ref l0), some (.int s0)]) (st' := [.ref l0, .int (v1 + s0)]) bo_110_17_06e792 rfl ?_
  refine r_gA mx_110 li_110_20 fd_9_22 rfl h (fun a2 h => ?_)
  refine r_gI mx_110 li_110_23 fd_9_30 ⟨by decide, by decide⟩ h (fun v3 h => ?_)
  refine h_gt h (fun h hc => ?_) (fun h hc => ?_)
  · refine r_icT mx_110 li_110_26 (by decide) rfl hc ?_
    refine EV_stq mx_110 (pc' := 34) (L' := [some (.ref l0), some (.int s0)]) (st' := [.int (0 : Int32)]) bo_110_33_1dc721 rfl ?_
    obtain rfl := Option.some.inj h
    exact r_ret mx_110 li_110_34 rfl (ro_nar (t := .boolean) (by decide) rfl)
  · refine r_icF mx_110 li_110_26 (by decide) hc ?_
    refine EV_stq mx_110 (pc' := 34) (L' := [some (.ref l0), some (.int s0)]) (st' := [.int (1 : Int32)]) bo_110_29_2746c1 rfl ?_
    obtain rfl := Option.some.inj h
    exact r_ret mx_110 li_110_34 rfl (ro_nar (t := .boolean) (by decide) rfl)
theorem e_ch_takesBarrier {d : Nat} (hd : 0 ≤ d) (p0 : Nat) (M : Mem) (r : Int32 × Mem) (h : f_ch_takesBarrier p0 M = some r) : EV d 110 0 (entL 2 [.ref p0]) [] M (some (.int r.1), r.2) := by
  show EV d 110 0 [some (.ref p0), none] [] M _
  unfold f_ch_takesBarrier at h
  refine EV_stq mx_110 (pc' := 1) (L' := [some (.ref p0), none]) (st' := [.ref p0]) bo_110_0_8d5162 rfl ?_
  refine r_gI mx_110 li_110_1 fd_9_35 ⟨by decide, by decide⟩ h (fun v1 h => ?_)
  refine h_le h (fun h hc => ?_) (fun h hc => ?_)
  · refine r_ifT mx_110 li_110_4 (by decide) rfl hc ?_
    refine EV_stq mx_110 (pc' := 12) (L' := [some (.ref p0), none]) (st' := [.int (1 : Int32)]) bo_110_11_081257 rfl ?_
    exact e_ch_takesBarrier_12 hd p0 (1 : Int32) M r h
  · refine r_ifF mx_110 li_110_4 (by decide) hc ?_
    refine EV_stq mx_110 (pc' := 12) (L' := [some (.ref p0), none]) (st' := [.int (2 : Int32)]) bo_110_7_7eef78 rfl ?_
    exact e_ch_takesBarrier_12 hd p0 (2 : Int32) M r h
theorem e_sm_targetWithoutRoom_37 {d : Nat} (hd : 2 ≤ d) (k2 : Nat → Int32 → Int32 → Int32 → Mem → Option (Int32 × Mem)) (hk2 : ∀ l0 l1 l2 l3 M r, k2 l0 l1 l2 l3 M = some r → EV d 111 2 [some (.ref l0), some (.int l1), some (.int l2), some (.int l3), none] [] M (some (.int r.1), r.2)) (l0 : Nat) (l1 : Int32) (l2 : Int32) (l3 : Int32) (M : Mem) (r : Int32 × Mem) (h : f_sm_targetWithoutRoom_37 k2 l0 l1 l2 l3 M = some r) : EV d 111 37 [some (.ref l0), some (.int l1), some (.int l2), some (.int l3), none] [] M (some (.int r.1), r.2) := by
  unfold f_sm_targetWithoutRoom_37 at h
  refine EV_stq mx_111 (pc' := 2) (L' := [some (.ref l0), some (.int l1), some (.int l2), some (.int (l3 + (1 : Int32))), none]) (st' := []) bo_111_37_ff1056 rfl ?_
  exact hk2 l0 l1 l2 (l3 + (1 : Int32)) M r h
theorem e_sm_targetWithoutRoom_2 {d : Nat} (hd : 2 ≤ d) : ∀ (n : Nat) (l0 : Nat) (l1 : Int32) (l2 : Int32) (l3 : Int32) (M : Mem) (r : Int32 × Mem), f_sm_targetWithoutRoom_2 n l0 l1 l2 l3 M = some r → EV d 111 2 [some (.ref l0), some (.int l1), some (.int l2), some (.int l3), none] [] M (some (.int r.1), r.2) := by
  intro n
  induction n with
  | zero => intro l0 l1 l2 l3 M r h; cases h
  | succ n ih =>
    intro l0 l1 l2 l3 M r h
    unfold f_sm_targetWithoutRoom_2 at h
    refine EV_stq mx_111 (pc' := 7) (L' := [some (.ref l0), some (.int l1), some (.int l2), some (.int l3), none]) (st' := [.int (l1 + (1 : Int32)), .ref l0, .int l3]) bo_111_2_e41136 rfl ?_
    refine h_ck h (fun hc h => ?_)
    refine h_cI h (fun v2 M1 e h => ?_)
    refine EV_call [.ref l0, .int (l1 + (1 : Int32))] [.int l3] mx_111 li_111_7 rfl rfl si_10_129 rfl (by decide) (by decide) (by omega) ma_90 rfl (Nat.le_of_ble_eq_true rfl) rfl rfl (Nat.le_of_ble_eq_true rfl) (rc_1 mt_at_90 rfl rfl (by decide) hc) (e_sm_sizeOf (by omega) l0 (l1 + (1 : Int32)) M _ e) ?_
    show EV d 111 10 [some (.ref l0), some (.int l1), some (.int l2), some (.int l3), none] [.int v2, .int l3] M1 _
    refine h_ge h (fun h hc => ?_) (fun h hc => ?_)
    · refine r_icT mx_111 li_111_10 (by decide) rfl hc ?_
      refine EV_stq mx_111 (pc' := 44) (L' := [some (.ref l0), some (.int l1), some (.int l2), some (.int l3), none]) (st' := [.int (-1 : Int32)]) bo_111_43_d85b47 rfl ?_
      obtain rfl := Option.some.inj h
      exact r_ret mx_111 li_111_44 rfl ro_int
    · refine r_icF mx_111 li_111_10 (by decide) hc ?_
      refine EV_stq mx_111 (pc' := 17) (L' := [some (.ref l0), some (.int l1), some (.int l2), some (.int l3), none]) (st' := [.int l3, .int l2, .int l1, .ref l0]) bo_111_13_c9553a rfl ?_
      refine h_ck h (fun hc h => ?_)
      refine h_cR h (fun o4 M3 e h => ?_)
      refine EV_call [.ref l0, .int l1, .int l2, .int l3] [] mx_111 li_111_17 rfl rfl si_10_205 rfl (by decide) (by decide) (by omega) ma_103 rfl (Nat.le_of_ble_eq_true rfl) rfl rfl (Nat.le_of_ble_eq_true rfl) (rc_1 mt_at_103 rfl rfl (by decide) hc) (e_sm_channelAt (by omega) l0 l1 l2 l3 M1 _ e) ?_
      refine h_onR (G := fun o => EV d 111 20 [some (.ref l0), some (.int l1), some (.int l2), some (.int l3), none] [rfv o] M3 _) h (fun h => ?_) (fun a5 h => ?_)
      · refine EV_stq mx_111 (pc' := 37) (L' := [some (.ref l0), some (.int l1), some (.int l2), some (.int l3), some (.null)]) (st' := []) bo_111_20_725769 rfl ?_
        refine EV_forget (A := [some (.ref l0), some (.int l1), some (.int l2), some (.int l3), none]) (lsub_of _ _ ⟨Or.inr rfl, ⟨Or.inr rfl, ⟨Or.inr rfl, ⟨Or.inr rfl, ⟨Or.inl rfl, trivial⟩⟩⟩⟩⟩) ?_
        exact e_sm_targetWithoutRoom_37 hd _ ih l0 l1 l2 l3 M3 r h
      · refine EV_stq mx_111 (pc' := 29) (L' := [some (.ref l0), some (.int l1), some (.int l2), some (.int l3), some (.ref a5)]) (st' := [.ref a5]) bo_111_20_4b3818 rfl ?_
        refine h_ck h (fun hc h => ?_)
        refine h_cI h (fun v7 M6 e h => ?_)
        refine EV_call [.ref a5] [] mx_111 li_111_29 rfl rfl si_10_209 rfl (by decide) (by decide) (by omega) ma_110 rfl (Nat.le_of_ble_eq_true rfl) rfl rfl (Nat.le_of_ble_eq_true rfl) (rc_1 mt_at_110 rfl rfl (by decide) hc) (e_ch_takesBarrier (by omega) a5 M3 _ e) ?_
        show EV d 111 32 [some (.ref l0), some (.int l1), some (.int l2), some (.int l3), some (.ref a5)] [.int v7] M6 _
        refine h_ne h (fun h hc => ?_) (fun h hc => ?_)
        · refine r_ifF mx_111 li_111_32 (by decide) hc ?_
          refine EV_stq mx_111 (pc' := 36) (L' := [some (.ref l0), some (.int l1), some (.int l2), some (.int l3), some (.ref a5)]) (st' := [.int l3]) bo_111_35_a976ef rfl ?_
          obtain rfl := Option.some.inj h
          exact r_ret mx_111 li_111_36 rfl ro_int
        · refine r_ifT mx_111 li_111_32 (by decide) rfl hc ?_
          refine EV_forget (A := [some (.ref l0), some (.int l1), some (.int l2), some (.int l3), none]) (lsub_of _ _ ⟨Or.inr rfl, ⟨Or.inr rfl, ⟨Or.inr rfl, ⟨Or.inr rfl, ⟨Or.inl rfl, trivial⟩⟩⟩⟩⟩) ?_
          exact e_sm_targetWithoutRoom_37 hd _ ih l0 l1 l2 l3 M6 r h
theorem e_sm_targetWithoutRoom {d : Nat} (hd : 2 ≤ d) (p0 : Nat) (p1 : Int32) (p2 : Int32) (M : Mem) (r : Int32 × Mem) (h : f_sm_targetWithoutRoom p0 p1 p2 M = some r) : EV d 111 0 (entL 5 [.ref p0, .int p1, .int p2]) [] M (some (.int r.1), r.2) := by
  show EV d 111 0 [some (.ref p0), some (.int p1), some (.int p2), none, none] [] M _
  unfold f_sm_targetWithoutRoom at h
  refine EV_stq mx_111 (pc' := 2) (L' := [some (.ref p0), some (.int p1), some (.int p2), some (.int (0 : Int32)), none]) (st' := []) bo_111_0_264884 rfl ?_
  exact e_sm_targetWithoutRoom_2 hd FU p0 p1 p2 (0 : Int32) M r h
theorem e_ch_putBarrier_11 {d : Nat} (hd : 2 ≤ d) (l0 : Nat) (M : Mem) (r : Mem) (h : f_ch_putBarrier_11 l0 M = some r) : EV d 112 11 [some (.ref l0)] [] M (none, r) := by
  unfold f_ch_putBarrier_11 at h
  refine EV_stq mx_112 (pc' := 13) (L' := [some (.ref l0)]) (st' := [.int (-1 : Int32), .ref l0]) bo_112_11_274bbd rfl ?_
  refine h_ck h (fun hc h => ?_)
  refine h_cV h (fun M1 e h => ?_)
  refine EV_call [.ref l0, .int (-1 : Int32)] [] mx_112 li_112_13 rfl rfl si_9_52 rfl (by decide) (by decide) (by omega) ma_95 rfl (Nat.le_of_ble_eq_true rfl) rfl rfl (Nat.le_of_ble_eq_true rfl) (rc_1 mt_at_95 rfl rfl (by decide) hc) (e_ch_enqueue (by omega) l0 (-1 : Int32) M _ e) ?_
  show EV d 112 16 [some (.ref l0)] [] M1 _
  obtain rfl := Option.some.inj h
  exact r_ret mx_112 li_112_16 rfl rfl
theorem e_ch_putBarrier {d : Nat} (hd : 2 ≤ d) (p0 : Nat) (M : Mem) (r : Mem) (h : f_ch_putBarrier p0 M = some r) : EV d 112 0 (entL 1 [.ref p0]) [] M (none, r) := by
  show EV d 112 0 [some (.ref p0)] [] M _
  unfold f_ch_putBarrier at h
  refine EV_stq mx_112 (pc' := 1) (L' := [some (.ref p0)]) (st' := [.ref p0]) bo_112_0_8d5162 rfl ?_
  refine r_gI mx_112 li_112_1 fd_9_35 ⟨by decide, by decide⟩ h (fun v1 h => ?_)
  refine h_le h (fun h hc => ?_) (fun h hc => ?_)
  · refine r_ifT mx_112 li_112_4 (by decide) rfl hc ?_
    exact e_ch_putBarrier_11 hd p0 M r h
  · refine r_ifF mx_112 li_112_4 (by decide) hc ?_
    refine EV_stq mx_112 (pc' := 8) (L' := [some (.ref p0)]) (st' := [.ref p0]) bo_112_7_9b264f rfl ?_
    refine h_ck h (fun hc h => ?_)
    refine h_cV h (fun M2 e h => ?_)
    refine EV_call [.ref p0] [] mx_112 li_112_8 rfl rfl si_9_45 rfl (by decide) (by decide) (by omega) ma_96 rfl (Nat.le_of_ble_eq_true rfl) rfl rfl (Nat.le_of_ble_eq_true rfl) (rc_1 mt_at_96 rfl rfl (by decide) hc) (e_ch_closeOpen (by omega) p0 M _ e) ?_
    show EV d 112 11 [some (.ref p0)] [] M2 _
    exact e_ch_putBarrier_11 hd p0 M2 r h
theorem e_sm_sendBarrier_55 {d : Nat} (hd : 3 ≤ d) (k23 : Nat → Int32 → Int32 → Nat → Int32 → Mem → Option (Int32 × Mem)) (hk23 : ∀ l0 l1 l2 l3 l4 M r, k23 l0 l1 l2 l3 l4 M = some r → EV d 113 23 [some (.ref l0), some (.int l1), some (.int l2), some (.ref l3), some (.int l4), none] [] M (some (.int r.1), r.2)) (l0 : Nat) (l1 : Int32) (l2 : Int32) (l3 : Nat) (l4 : Int32) (M : Mem) (r : Int32 × Mem) (h : f_sm_sendBarrier_55 k23 l0 l1 l2 l3 l4 M = some r) : EV d 113 55 [some (.ref l0), some (.int l1), some (.int l2), some (.ref l3), some (.int l4), none] [] M (some (.int r.1), r.2) := by
  unfold f_sm_sendBarrier_55 at h
  refine EV_stq mx_113 (pc' := 23) (L' := [some (.ref l0), some (.int l1), some (.int l2), some (.ref l3), some (.int (l4 + (1 : Int32))), none]) (st' := []) bo_113_55_9f5133 rfl ?_
  exact hk23 l0 l1 l2 l3 (l4 + (1 : Int32)) M r h
theorem e_sm_sendBarrier_23 {d : Nat} (hd : 3 ≤ d) : ∀ (n : Nat) (l0 : Nat) (l1 : Int32) (l2 : Int32) (l3 : Nat) (l4 : Int32) (M : Mem) (r : Int32 × Mem), f_sm_sendBarrier_23 n l0 l1 l2 l3 l4 M = some r → EV d 113 23 [some (.ref l0), some (.int l1), some (.int l2), some (.ref l3), some (.int l4), none] [] M (some (.int r.1), r.2) := by
  intro n
  induction n with
  | zero => intro l0 l1 l2 l3 l4 M r h; cases h
  | succ n ih =>
    intro l0 l1 l2 l3 l4 M r h
    unfold f_sm_sendBarrier_23 at h
    refine EV_stq mx_113 (pc' := 29) (L' := [some (.ref l0), some (.int l1), some (.int l2), some (.ref l3), some (.int l4), none]) (st' := [.int (l1 + (1 : Int32)), .ref l0, .int l4]) bo_113_23_0fb197 rfl ?_
    refine h_ck h (fun hc h => ?_)
    refine h_cI h (fun v2 M1 e h => ?_)
    refine EV_call [.ref l0, .int (l1 + (1 : Int32))] [.int l4] mx_113 li_113_29 rfl rfl si_10_129 rfl (by decide) (by decide) (by omega) ma_90 rfl (Nat.le_of_ble_eq_true rfl) rfl rfl (Nat.le_of_ble_eq_true rfl) (rc_1 mt_at_90 rfl rfl (by decide) hc) (e_sm_sizeOf (by omega) l0 (l1 + (1 : Int32)) M _ e) ?_
    show EV d 113 32 [some (.ref l0), some (.int l1), some (.int l2), some (.ref l3), some (.int l4), none] [.int v2, .int l4] M1 _
    refine h_ge h (fun h hc => ?_) (fun h hc => ?_)
    · refine r_icT mx_113 li_113_32 (by decide) rfl hc ?_
      refine EV_stq mx_113 (pc' := 63) (L' := [some (.ref l0), some (.int l1), some (.int l2), some (.ref l3), some (.int l4), none]) (st' := [.int (0 : Int32), .ref l3]) bo_113_61_cd5945 rfl ?_
      refine r_pZ mx_113 li_113_63 fd_10_153 (Or.inl rfl) rfl h (fun M3 h => ?_)
      refine EV_stq mx_113 (pc' := 67) (L' := [some (.ref l0), some (.int l1), some (.int l2), some (.ref l3), some (.int l4), none]) (st' := [.int (1 : Int32)]) bo_113_66_831ba3 rfl ?_
      obtain rfl := Option.some.inj h
      exact r_ret mx_113 li_113_67 rfl (ro_nar (t := .boolean) (by decide) rfl)
    · refine r_icF mx_113 li_113_32 (by decide) hc ?_
      refine EV_stq mx_113 (pc' := 40) (L' := [some (.ref l0), some (.int l1), some (.int l2), some (.ref l3), some (.int l4), none]) (st' := [.int l4, .int l2, .int l1, .ref l0]) bo_113_35_66ed4e rfl ?_
      refine h_ck h (fun hc h => ?_)
      refine h_cR h (fun o5 M4 e h => ?_)
      refine EV_call [.ref l0, .int l1, .int l2, .int l4] [] mx_113 li_113_40 rfl rfl si_10_205 rfl (by decide) (by decide) (by omega) ma_103 rfl (Nat.le_of_ble_eq_true rfl) rfl rfl (Nat.le_of_ble_eq_true rfl) (rc_1 mt_at_103 rfl rfl (by decide) hc) (e_sm_channelAt (by omega) l0 l1 l2 l4 M1 _ e) ?_
      refine h_onR (G := fun o => EV d 113 43 [some (.ref l0), some (.int l1), some (.int l2), some (.ref l3), some (.int l4), none] [rfv o] M4 _) h (fun h => ?_) (fun a6 h => ?_)
      · refine EV_stq mx_113 (pc' := 55) (L' := [some (.ref l0), some (.int l1), some (.int l2), some (.ref l3), some (.int l4), some (.null)]) (st' := []) bo_113_43_6dab3c rfl ?_
        refine EV_forget (A := [some (.ref l0), some (.int l1), some (.int l2), some (.ref l3), some (.int l4), none]) (lsub_of _ _ ⟨Or.inr rfl, ⟨Or.inr rfl, ⟨Or.inr rfl, ⟨Or.inr rfl, ⟨Or.inr rfl, ⟨Or.inl rfl, trivial⟩⟩⟩⟩⟩⟩) ?_
        exact e_sm_sendBarrier_55 hd _ ih l0 l1 l2 l3 l4 M4 r h
      · refine EV_stq mx_113 (pc' := 52) (L' := [some (.ref l0), some (.int l1), some (.int l2), some (.ref l3), some (.int l4), some (.ref a6)]) (st' := [.ref a6]) bo_113_43_fd34e5 rfl ?_
        refine h_ck h (fun hc h => ?_)
        refine h_cV h (fun M7 e h => ?_)
        refine EV_call [.ref a6] [] mx_113 li_113_52 rfl rfl si_10_270 rfl (by decide) (by decide) (by omega) ma_112 rfl (Nat.le_of_ble_eq_true rfl) rfl rfl (Nat.le_of_ble_eq_true rfl) (rc_1 mt_at_112 rfl rfl (by decide) hc) (e_ch_putBarrier (by omega) a6 M4 _ e) ?_
        show EV d 113 55 [some (.ref l0), some (.int l1), some (.int l2), some (.ref l3), some (.int l4), some (.ref a6)] [] M7 _
        refine EV_forget (A := [some (.ref l0), some (.int l1), some (.int l2), some (.ref l3), some (.int l4), none]) (lsub_of _ _ ⟨Or.inr rfl, ⟨Or.inr rfl, ⟨Or.inr rfl, ⟨Or.inr rfl, ⟨Or.inr rfl, ⟨Or.inl rfl, trivial⟩⟩⟩⟩⟩⟩) ?_
        exact e_sm_sendBarrier_55 hd _ ih l0 l1 l2 l3 l4 M7 r h
theorem e_sm_sendBarrier {d : Nat} (hd : 3 ≤ d) (p0 : Nat) (p1 : Int32) (p2 : Int32) (p3 : Nat) (M : Mem) (r : Int32 × Mem) (h : f_sm_sendBarrier p0 p1 p2 p3 M = some r) : EV d 113 0 (entL 6 [.ref p0, .int p1, .int p2, .ref p3]) [] M (some (.int r.1), r.2) := by
  show EV d 113 0 [some (.ref p0), some (.int p1), some (.int p2), some (.ref p3), none, none] [] M _
  unfold f_sm_sendBarrier at h
  refine EV_stq mx_113 (pc' := 1) (L' := [some (.ref p0), some (.int p1), some (.int p2), some (.ref p3), none, none]) (st' := [.ref p3]) bo_113_0_8d5162 rfl ?_
  refine r_gI mx_113 li_113_1 fd_10_153 ⟨by decide, by decide⟩ h (fun v1 h => ?_)
  refine h_ne h (fun h hc => ?_) (fun h hc => ?_)
  · refine r_ifF mx_113 li_113_4 (by decide) hc ?_
    refine EV_stq mx_113 (pc' := 8) (L' := [some (.ref p0), some (.int p1), some (.int p2), some (.ref p3), none, none]) (st' := [.int (1 : Int32)]) bo_113_7_9b264f rfl ?_
    obtain rfl := Option.some.inj h
    exact r_ret mx_113 li_113_8 rfl (ro_nar (t := .boolean) (by decide) rfl)
  · refine r_ifT mx_113 li_113_4 (by decide) rfl hc ?_
    refine EV_stq mx_113 (pc' := 12) (L' := [some (.ref p0), some (.int p1), some (.int p2), some (.ref p3), none, none]) (st' := [.int p2, .int p1, .ref p0]) bo_113_9_94b225 rfl ?_
    refine h_ck h (fun hc h => ?_)
    refine h_cI h (fun v3 M2 e h => ?_)
    refine EV_call [.ref p0, .int p1, .int p2] [] mx_113 li_113_12 rfl rfl si_10_267 rfl (by decide) (by decide) (by omega) ma_111 rfl (Nat.le_of_ble_eq_true rfl) rfl rfl (Nat.le_of_ble_eq_true rfl) (rc_1 mt_at_111 rfl rfl (by decide) hc) (e_sm_targetWithoutRoom (by omega) p0 p1 p2 M _ e) ?_
    show EV d 113 15 [some (.ref p0), some (.int p1), some (.int p2), some (.ref p3), none, none] [.int v3] M2 _
    refine h_lt h (fun h hc => ?_) (fun h hc => ?_)
    · refine r_ifT mx_113 li_113_15 (by decide) rfl hc ?_
      refine EV_stq mx_113 (pc' := 23) (L' := [some (.ref p0), some (.int p1), some (.int p2), some (.ref p3), some (.int (0 : Int32)), none]) (st' := []) bo_113_20_aa2fda rfl ?_
      exact e_sm_sendBarrier_23 hd FU p0 p1 p2 p3 (0 : Int32) M2 r h
    · refine r_ifF mx_113 li_113_15 (by decide) hc ?_
      refine EV_stq mx_113 (pc' := 19) (L' := [some (.ref p0), some (.int p1), some (.int p2), some (.ref p3), none, none]) (st' := [.int (0 : Int32)]) bo_113_18_2b31d8 rfl ?_
      obtain rfl := Option.some.inj h
      exact r_ret mx_113 li_113_19 rfl (ro_nar (t := .boolean) (by decide) rfl)
theorem e_sm_takeInput {d : Nat} (hd : 1 ≤ d) (p0 : Nat) (p1 : Nat) (p2 : Nat) (M : Mem) (r : Int32 × Mem) (h : f_sm_takeInput p0 p1 p2 M = some r) : EV d 114 0 (entL 3 [.ref p0, .ref p1, .ref p2]) [] M (some (.int r.1), r.2) := by
  show EV d 114 0 [some (.ref p0), some (.ref p1), some (.ref p2)] [] M _
  unfold f_sm_takeInput at h
  refine EV_stq mx_114 (pc' := 1) (L' := [some (.ref p0), some (.ref p1), some (.ref p2)]) (st' := [.ref p0]) bo_114_0_8d5162 rfl ?_
  refine r_gI mx_114 li_114_1 fd_10_135 ⟨by decide, by decide⟩ h (fun v1 h => ?_)
  refine EV_stq mx_114 (pc' := 5) (L' := [some (.ref p0), some (.ref p1), some (.ref p2)]) (st' := [.ref p0, .int v1]) bo_114_4_e962e2 rfl ?_
  refine r_gA mx_114 li_114_5 fd_10_23 rfl h (fun a2 h => ?_)
  refine r_gI mx_114 li_114_8 fd_10_156 ⟨by decide, by decide⟩ h (fun v3 h => ?_)
  refine h_lt h (fun h hc => ?_) (fun h hc => ?_)
  · refine r_icT mx_114 li_114_11 (by decide) rfl hc ?_
    refine EV_stq mx_114 (pc' := 17) (L' := [some (.ref p0), some (.ref p1), some (.ref p2)]) (st' := [.ref p2]) bo_114_16_862b1a rfl ?_
    refine r_gA mx_114 li_114_17 fd_10_168 rfl h (fun a4 h => ?_)
    refine EV_stq mx_114 (pc' := 21) (L' := [some (.ref p0), some (.ref p1), some (.ref p2)]) (st' := [.ref p0, .ref a4]) bo_114_20_baa9a0 rfl ?_
    refine r_gA mx_114 li_114_21 fd_10_23 rfl h (fun a5 h => ?_)
    refine EV_stq mx_114 (pc' := 25) (L' := [some (.ref p0), some (.ref p1), some (.ref p2)]) (st' := [.ref p0, .ref a5, .ref a4]) bo_114_24_99aa1d rfl ?_
    refine r_gI mx_114 li_114_25 fd_10_135 ⟨by decide, by decide⟩ h (fun v6 h => ?_)
    refine h_ck h (fun hc h => ?_)
    refine h_cI h (fun v8 M7 e h => ?_)
    refine EV_call [.ref a5, .int v6] [.ref a4] mx_114 li_114_28 rfl rfl si_10_193 rfl (by decide) (by decide) (by omega) ma_99 rfl (Nat.le_of_ble_eq_true rfl) rfl rfl (Nat.le_of_ble_eq_true rfl) (rc_1 mt_at_99 rfl rfl (by decide) hc) (e_rc_keyAt (by omega) a5 v6 M _ e) ?_
    show EV d 114 31 [some (.ref p0), some (.ref p1), some (.ref p2)] [.int v8, .ref a4] M7 _
    refine EV_stq mx_114 (pc' := 32) (L' := [some (.ref p0), some (.ref p1), some (.ref p2)]) (st' := [.ref p0, .int v8, .ref a4]) bo_114_31_c379e3 rfl ?_
    refine r_gA mx_114 li_114_32 fd_10_23 rfl h (fun a9 h => ?_)
    refine EV_stq mx_114 (pc' := 36) (L' := [some (.ref p0), some (.ref p1), some (.ref p2)]) (st' := [.ref p0, .ref a9, .int v8, .ref a4]) bo_114_35_a976ef rfl ?_
    refine r_gI mx_114 li_114_36 fd_10_135 ⟨by decide, by decide⟩ h (fun v10 h => ?_)
    refine h_ck h (fun hc h => ?_)
    refine h_cI h (fun v12 M11 e h => ?_)
    refine EV_call [.ref a9, .int v10] [.int v8, .ref a4] mx_114 li_114_39 rfl rfl si_10_254 rfl (by decide) (by decide) (by omega) ma_105 rfl (Nat.le_of_ble_eq_true rfl) rfl rfl (Nat.le_of_ble_eq_true rfl) (rc_1 mt_at_105 rfl rfl (by decide) hc) (e_rc_valueAt (by omega) a9 v10 M7 _ e) ?_
    show EV d 114 42 [some (.ref p0), some (.ref p1), some (.ref p2)] [.int v12, .int v8, .ref a4] M11 _
    refine EV_stq mx_114 (pc' := 43) (L' := [some (.ref p0), some (.ref p1), some (.ref p2)]) (st' := [.ref p0, .int v12, .int v8, .ref a4]) bo_114_42_b358e7 rfl ?_
    refine r_gI mx_114 li_114_43 fd_10_103 ⟨by decide, by decide⟩ h (fun v13 h => ?_)
    refine h_ck h (fun hc h => ?_)
    refine h_cV h (fun M14 e h => ?_)
    refine EV_call [.ref a4, .int v8, .int v12, .int v13] [] mx_114 li_114_46 rfl rfl si_10_273 rfl (by decide) (by decide) (by omega) ma_86 rfl (Nat.le_of_ble_eq_true rfl) rfl rfl (Nat.le_of_ble_eq_true rfl) (rc_1 mt_at_86 rfl rfl (by decide) hc) (e_rc_add (by omega) a4 v8 v12 v13 M11 _ e) ?_
    show EV d 114 49 [some (.ref p0), some (.ref p1), some (.ref p2)] [] M14 _
    refine EV_stq mx_114 (pc' := 51) (L' := [some (.ref p0), some (.ref p1), some (.ref p2)]) (st' := [.ref p0, .ref p0]) bo_114_49_23be2b rfl ?_
    refine r_gI mx_114 li_114_51 fd_10_135 ⟨by decide, by decide⟩ h (fun v15 h => ?_)
    refine EV_stq mx_114 (pc' := 56) (L' := [some (.ref p0), some (.ref p1), some (.ref p2)]) (st' := [.int (v15 + (1 : Int32)), .ref p0]) bo_114_54_a3ab7c rfl ?_
    refine r_pI mx_114 li_114_56 fd_10_135 (Or.inl rfl) rfl h (fun M16 h => ?_)
    refine EV_stq mx_114 (pc' := 61) (L' := [some (.ref p0), some (.ref p1), some (.ref p2)]) (st' := [.ref p1, .ref p1]) bo_114_59_d0b94e rfl ?_
    refine r_gI mx_114 li_114_61 fd_10_276 ⟨by decide, by decide⟩ h (fun v17 h => ?_)
    refine EV_stq mx_114 (pc' := 66) (L' := [some (.ref p0), some (.ref p1), some (.ref p2)]) (st' := [.int (v17 + (1 : Int32)), .ref p1]) bo_114_64_23d05d rfl ?_
    refine r_pI mx_114 li_114_66 fd_10_276 (Or.inl rfl) rfl h (fun M18 h => ?_)
    refine EV_stq mx_114 (pc' := 71) (L' := [some (.ref p0), some (.ref p1), some (.ref p2)]) (st' := [.ref p1, .ref p1]) bo_114_69_1aaecf rfl ?_
    refine r_gI mx_114 li_114_71 fd_10_279 ⟨by decide, by decide⟩ h (fun v19 h => ?_)
    refine EV_stq mx_114 (pc' := 76) (L' := [some (.ref p0), some (.ref p1), some (.ref p2)]) (st' := [.int (v19 + (1 : Int32)), .ref p1]) bo_114_74_f61e5a rfl ?_
    refine r_pI mx_114 li_114_76 fd_10_279 (Or.inl rfl) rfl h (fun M20 h => ?_)
    refine EV_stq mx_114 (pc' := 80) (L' := [some (.ref p0), some (.ref p1), some (.ref p2)]) (st' := [.int (1 : Int32)]) bo_114_79_febf86 rfl ?_
    obtain rfl := Option.some.inj h
    exact r_ret mx_114 li_114_80 rfl (ro_nar (t := .boolean) (by decide) rfl)
  · refine r_icF mx_114 li_114_11 (by decide) hc ?_
    refine EV_stq mx_114 (pc' := 15) (L' := [some (.ref p0), some (.ref p1), some (.ref p2)]) (st' := [.int (0 : Int32)]) bo_114_14_3e81ce rfl ?_
    obtain rfl := Option.some.inj h
    exact r_ret mx_114 li_114_15 rfl (ro_nar (t := .boolean) (by decide) rfl)
theorem e_ch_hasItem {d : Nat} (hd : 0 ≤ d) (p0 : Nat) (M : Mem) (r : Int32 × Mem) (h : f_ch_hasItem p0 M = some r) : EV d 115 0 (entL 1 [.ref p0]) [] M (some (.int r.1), r.2) := by
  show EV d 115 0 [some (.ref p0)] [] M _
  unfold f_ch_hasItem at h
  refine EV_stq mx_115 (pc' := 1) (L' := [some (.ref p0)]) (st' := [.ref p0]) bo_115_0_8d5162 rfl ?_
  refine r_gI mx_115 li_115_1 fd_9_26 ⟨by decide, by decide⟩ h (fun v1 h => ?_)
  refine h_le h (fun h hc => ?_) (fun h hc => ?_)
  · refine r_ifT mx_115 li_115_4 (by decide) rfl hc ?_
    refine EV_stq mx_115 (pc' := 12) (L' := [some (.ref p0)]) (st' := [.int (0 : Int32)]) bo_115_11_081257 rfl ?_
    obtain rfl := Option.some.inj h
    exact r_ret mx_115 li_115_12 rfl (ro_nar (t := .boolean) (by decide) rfl)
  · refine r_ifF mx_115 li_115_4 (by decide) hc ?_
    refine EV_stq mx_115 (pc' := 12) (L' := [some (.ref p0)]) (st' := [.int (1 : Int32)]) bo_115_7_7eef78 rfl ?_
    obtain rfl := Option.some.inj h
    exact r_ret mx_115 li_115_12 rfl (ro_nar (t := .boolean) (by decide) rfl)
theorem e_sm_inputToTake_103 {d : Nat} (hd : 2 ≤ d) (k30 : Nat → Int32 → Int32 → Nat → Int32 → Int32 → Mem → Option (Int32 × Mem)) (hk30 : ∀ l0 l1 l2 l3 l4 l5 M r, k30 l0 l1 l2 l3 l4 l5 M = some r → EV d 116 30 [some (.ref l0), some (.int l1), some (.int l2), some (.ref l3), some (.int l4), some (.int l5), none, none, none] [] M (some (.int r.1), r.2)) (l0 : Nat) (l1 : Int32) (l2 : Int32) (l3 : Nat) (l4 : Int32) (l5 : Int32) (M : Mem) (r : Int32 × Mem) (h : f_sm_inputToTake_103 k30 l0 l1 l2 l3 l4 l5 M = some r) : EV d 116 103 [some (.ref l0), some (.int l1), some (.int l2), some (.ref l3), some (.int l4), some (.int l5), none, none, none] [] M (some (.int r.1), r.2) := by
  unfold f_sm_inputToTake_103 at h
  refine EV_stq mx_116 (pc' := 30) (L' := [some (.ref l0), some (.int l1), some (.int l2), some (.ref l3), some (.int l4), some (.int (l5 + (1 : Int32))), none, none, none]) (st' := []) bo_116_103_036b08 rfl ?_
  exact hk30 l0 l1 l2 l3 l4 (l5 + (1 : Int32)) M r h
theorem e_sm_inputToTake_80 {d : Nat} (hd : 2 ≤ d) (k30 : Nat → Int32 → Int32 → Nat → Int32 → Int32 → Mem → Option (Int32 × Mem)) (hk30 : ∀ l0 l1 l2 l3 l4 l5 M r, k30 l0 l1 l2 l3 l4 l5 M = some r → EV d 116 30 [some (.ref l0), some (.int l1), some (.int l2), some (.ref l3), some (.int l4), some (.int l5), none, none, none] [] M (some (.int r.1), r.2)) (l0 : Nat) (l1 : Int32) (l2 : Int32) (l3 : Nat) (l4 : Int32) (l5 : Int32) (l6 : Int32) (l7 : Option Nat) (s0 : Int32) (M : Mem) (r : Int32 × Mem) (h : f_sm_inputToTake_80 k30 l0 l1 l2 l3 l4 l5 l6 l7 s0 M = some r) : EV d 116 80 [some (.ref l0), some (.int l1), some (.int l2), some (.ref l3), some (.int l4), some (.int l5), some (.int l6), some (rfv l7), none] [.int s0] M (some (.int r.1), r.2) := by
  unfold f_sm_inputToTake_80 at h
  refine h_onR (G := fun o => EV d 116 80 [some (.ref l0), some (.int l1), some (.int l2), some (.ref l3), some (.int l4), some (.int l5), some (.int l6), some (rfv o), none] [.int s0] M _) h (fun h => ?_) (fun a1 h => ?_)
  · refine EV_stq mx_116 (pc' := 103) (L' := [some (.ref l0), some (.int l1), some (.int l2), some (.ref l3), some (.int l4), some (.int l5), some (.int l6), some (.null), some (.int s0)]) (st' := []) bo_116_80_9c71c9 rfl ?_
    refine EV_forget (A := [some (.ref l0), some (.int l1), some (.int l2), some (.ref l3), some (.int l4), some (.int l5), none, none, none]) (lsub_of _ _ ⟨Or.inr rfl, ⟨Or.inr rfl, ⟨Or.inr rfl, ⟨Or.inr rfl, ⟨Or.inr rfl, ⟨Or.inr rfl, ⟨Or.inl rfl, ⟨Or.inl rfl, ⟨Or.inl rfl, trivial⟩⟩⟩⟩⟩⟩⟩⟩⟩) ?_
    exact e_sm_inputToTake_103 hd k30 hk30 l0 l1 l2 l3 l4 l5 M r h
  · refine EV_stq mx_116 (pc' := 89) (L' := [some (.ref l0), some (.int l1), some (.int l2), some (.ref l3), some (.int l4), some (.int l5), some (.int l6), some (.ref a1), some (.int s0)]) (st' := [.int s0]) bo_116_80_22f1f9 rfl ?_
    refine h_ne h (fun h hc => ?_) (fun h hc => ?_)
    · refine r_ifF mx_116 li_116_89 (by decide) hc ?_
      refine EV_stq mx_116 (pc' := 94) (L' := [some (.ref l0), some (.int l1), some (.int l2), some (.ref l3), some (.int l4), some (.int l5), some (.int l6), some (.ref a1), some (.int s0)]) (st' := [.ref a1]) bo_116_92_b12865 rfl ?_
      refine h_ck h (fun hc h => ?_)
      refine h_cI h (fun v3 M2 e h => ?_)
      refine EV_call [.ref a1] [] mx_116 li_116_94 rfl rfl si_10_218 rfl (by decide) (by decide) (by omega) ma_115 rfl (Nat.le_of_ble_eq_true rfl) rfl rfl (Nat.le_of_ble_eq_true rfl) (rc_1 mt_at_115 rfl rfl (by decide) hc) (e_ch_hasItem (by omega) a1 M _ e) ?_
      show EV d 116 97 [some (.ref l0), some (.int l1), some (.int l2), some (.ref l3), some (.int l4), some (.int l5), some (.int l6), some (.ref a1), some (.int s0)] [.int v3] M2 _
      refine h_eq h (fun h hc => ?_) (fun h hc => ?_)
      · refine r_ifT mx_116 li_116_97 (by decide) rfl hc ?_
        refine EV_forget (A := [some (.ref l0), some (.int l1), some (.int l2), some (.ref l3), some (.int l4), some (.int l5), none, none, none]) (lsub_of _ _ ⟨Or.inr rfl, ⟨Or.inr rfl, ⟨Or.inr rfl, ⟨Or.inr rfl, ⟨Or.inr rfl, ⟨Or.inr rfl, ⟨Or.inl rfl, ⟨Or.inl rfl, ⟨Or.inl rfl, trivial⟩⟩⟩⟩⟩⟩⟩⟩⟩) ?_
        exact e_sm_inputToTake_103 hd k30 hk30 l0 l1 l2 l3 l4 l5 M2 r h
      · refine r_ifF mx_116 li_116_97 (by decide) hc ?_
        refine EV_stq mx_116 (pc' := 102) (L' := [some (.ref l0), some (.int l1), some (.int l2), some (.ref l3), some (.int l4), some (.int l5), some (.int l6), some (.ref a1), some (.int s0)]) (st' := [.int l6]) bo_116_100_5dd146 rfl ?_
        obtain rfl := Option.some.inj h
        exact r_ret mx_116 li_116_102 rfl ro_int
    · refine r_ifT mx_116 li_116_89 (by decide) rfl hc ?_
      refine EV_forget (A := [some (.ref l0), some (.int l1), some (.int l2), some (.ref l3), some (.int l4), some (.int l5), none, none, none]) (lsub_of _ _ ⟨Or.inr rfl, ⟨Or.inr rfl, ⟨Or.inr rfl, ⟨Or.inr rfl, ⟨Or.inr rfl, ⟨Or.inr rfl, ⟨Or.inl rfl, ⟨Or.inl rfl, ⟨Or.inl rfl, trivial⟩⟩⟩⟩⟩⟩⟩⟩⟩) ?_
      exact e_sm_inputToTake_103 hd k30 hk30 l0 l1 l2 l3 l4 l5 M r h
theorem e_sm_inputToTake_30 {d : Nat} (hd : 2 ≤ d) : ∀ (n : Nat) (l0 : Nat) (l1 : Int32) (l2 : Int32) (l3 : Nat) (l4 : Int32) (l5 : Int32) (M : Mem) (r : Int32 × Mem), f_sm_inputToTake_30 n l0 l1 l2 l3 l4 l5 M = some r → EV d 116 30 [some (.ref l0), some (.int l1), some (.int l2), some (.ref l3), some (.int l4), some (.int l5), none, none, none] [] M (some (.int r.1), r.2) := by
  intro n
  induction n with
  | zero => intro l0 l1 l2 l3 l4 l5 M r h; cases h
  | succ n ih =>
    intro l0 l1 l2 l3 l4 l5 M r h
    unfold f_sm_inputToTake_30 at h
    refine EV_stq mx_116 (pc' := 34) (L' := [some (.ref l0), some (.int l1), some (.int l2), some (.ref l3), some (.int l4), some (.int l5), none, none, none]) (st' := [.int l4, .int l5]) bo_116_30_0fc7a9 rfl ?_
    refine h_ge h (fun h hc => ?_) (fun h hc => ?_)
    · refine r_icT mx_116 li_116_34 (by decide) rfl hc ?_
      refine EV_stq mx_116 (pc' := 110) (L' := [some (.ref l0), some (.int l1), some (.int l2), some (.ref l3), some (.int l4), some (.int l5), none, none, none]) (st' := [.int (-1 : Int32)]) bo_116_109_9ce450 rfl ?_
      obtain rfl := Option.some.inj h
      exact r_ret mx_116 li_116_110 rfl ro_int
    · refine r_icF mx_116 li_116_34 (by decide) hc ?_
      refine EV_stq mx_116 (pc' := 38) (L' := [some (.ref l0), some (.int l1), some (.int l2), some (.ref l3), some (.int l4), some (.int l5), none, none, none]) (st' := [.ref l3]) bo_116_37_a21c9f rfl ?_
      refine r_gI mx_116 li_116_38 fd_10_212 ⟨by decide, by decide⟩ h (fun v1 h => ?_)
      refine EV_stq mx_116 (pc' := 46) (L' := [some (.ref l0), some (.int l1), some (.int l2), some (.ref l3), some (.int l4), some (.int l5), none, none, none]) (st' := [.int l4, .int (v1 + l5)]) bo_116_41_5a8a19 rfl ?_
      refine h_cI h (fun v3 M2 e h => ?_)
      refine EV_call [.int (v1 + l5), .int l4] [] mx_116 li_116_46 rfl rfl si_10_200 rfl (by decide) (by decide) (by omega) ma_101 rfl (Nat.le_of_ble_eq_true rfl) rfl rfl (Nat.le_of_ble_eq_true rfl) rfl (e_ma_floorMod (by omega) (v1 + l5) l4 M _ e) ?_
      show EV d 116 49 [some (.ref l0), some (.int l1), some (.int l2), some (.ref l3), some (.int l4), some (.int l5), none, none, none] [.int v3] M2 _
      refine EV_stq mx_116 (pc' := 58) (L' := [some (.ref l0), some (.int l1), some (.int l2), some (.ref l3), some (.int l4), some (.int l5), some (.int v3), none, none]) (st' := [.int l2, .int v3, .int (l1 - (1 : Int32)), .ref l0]) bo_116_49_45463c rfl ?_
      refine h_ck h (fun hc h => ?_)
      refine h_cR h (fun o5 M4 e h => ?_)
      refine EV_call [.ref l0, .int (l1 - (1 : Int32)), .int v3, .int l2] [] mx_116 li_116_58 rfl rfl si_10_205 rfl (by decide) (by decide) (by omega) ma_103 rfl (Nat.le_of_ble_eq_true rfl) rfl rfl (Nat.le_of_ble_eq_true rfl) (rc_1 mt_at_103 rfl rfl (by decide) hc) (e_sm_channelAt (by omega) l0 (l1 - (1 : Int32)) v3 l2 M2 _ e) ?_
      refine h_onR (G := fun o => EV d 116 61 [some (.ref l0), some (.int l1), some (.int l2), some (.ref l3), some (.int l4), some (.int l5), some (.int v3), none, none] [rfv o] M4 _) h (fun h => ?_) (fun a6 h => ?_)
      · refine EV_stq mx_116 (pc' := 64) (L' := [some (.ref l0), some (.int l1), some (.int l2), some (.ref l3), some (.int l4), some (.int l5), some (.int v3), some (.null), none]) (st' := [.ref l3]) bo_116_61_c66632 rfl ?_
        refine r_gI mx_116 li_116_64 fd_10_215 ⟨by decide, by decide⟩ h (fun v7 h => ?_)
        refine EV_stq mx_116 (pc' := 72) (L' := [some (.ref l0), some (.int l1), some (.int l2), some (.ref l3), some (.int l4), some (.int l5), some (.int v3), some (.null), none]) (st' := [.int ((v7 >>> (v3 &&& 31)) &&& (1 : Int32))]) bo_116_67_f0a829 rfl ?_
        refine h_eq h (fun h hc => ?_) (fun h hc => ?_)
        · refine r_ifT mx_116 li_116_72 (by decide) rfl hc ?_
          refine EV_stq mx_116 (pc' := 80) (L' := [some (.ref l0), some (.int l1), some (.int l2), some (.ref l3), some (.int l4), some (.int l5), some (.int v3), some (.null), none]) (st' := [.int (0 : Int32)]) bo_116_79_febf86 rfl ?_
          exact e_sm_inputToTake_80 hd _ ih l0 l1 l2 l3 l4 l5 v3 none (0 : Int32) M4 r h
        · refine r_ifF mx_116 li_116_72 (by decide) hc ?_
          refine EV_stq mx_116 (pc' := 80) (L' := [some (.ref l0), some (.int l1), some (.int l2), some (.ref l3), some (.int l4), some (.int l5), some (.int v3), some (.null), none]) (st' := [.int (1 : Int32)]) bo_116_75_c3e58c rfl ?_
          exact e_sm_inputToTake_80 hd _ ih l0 l1 l2 l3 l4 l5 v3 none (1 : Int32) M4 r h
      · refine EV_stq mx_116 (pc' := 64) (L' := [some (.ref l0), some (.int l1), some (.int l2), some (.ref l3), some (.int l4), some (.int l5), some (.int v3), some (.ref a6), none]) (st' := [.ref l3]) bo_116_61_c66632 rfl ?_
        refine r_gI mx_116 li_116_64 fd_10_215 ⟨by decide, by decide⟩ h (fun v8 h => ?_)
        refine EV_stq mx_116 (pc' := 72) (L' := [some (.ref l0), some (.int l1), some (.int l2), some (.ref l3), some (.int l4), some (.int l5), some (.int v3), some (.ref a6), none]) (st' := [.int ((v8 >>> (v3 &&& 31)) &&& (1 : Int32))]) bo_116_67_f0a829 rfl ?_
        refine h_eq h (fun h hc => ?_) (fun h hc => ?_)
        · refine r_ifT mx_116 li_116_72 (by decide) rfl hc ?_
          refine EV_stq mx_116 (pc' := 80) (L' := [some (.ref l0), some (.int l1), some (.int l2), some (.ref l3), some (.int l4), some (.int l5), some (.int v3), some (.ref a6), none]) (st' := [.int (0 : Int32)]) bo_116_79_febf86 rfl ?_
          exact e_sm_inputToTake_80 hd _ ih l0 l1 l2 l3 l4 l5 v3 (some a6) (0 : Int32) M4 r h
        · refine r_ifF mx_116 li_116_72 (by decide) hc ?_
          refine EV_stq mx_116 (pc' := 80) (L' := [some (.ref l0), some (.int l1), some (.int l2), some (.ref l3), some (.int l4), some (.int l5), some (.int v3), some (.ref a6), none]) (st' := [.int (1 : Int32)]) bo_116_75_c3e58c rfl ?_
          exact e_sm_inputToTake_80 hd _ ih l0 l1 l2 l3 l4 l5 v3 (some a6) (1 : Int32) M4 r h
theorem e_sm_inputToTake {d : Nat} (hd : 2 ≤ d) (p0 : Nat) (p1 : Int32) (p2 : Int32) (M : Mem) (r : Int32 × Mem) (h : f_sm_inputToTake p0 p1 p2 M = some r) : EV d 116 0 (entL 9 [.ref p0, .int p1, .int p2]) [] M (some (.int r.1), r.2) := by
  show EV d 116 0 [some (.ref p0), some (.int p1), some (.int p2), none, none, none, none, none, none] [] M _
  unfold f_sm_inputToTake at h
  refine EV_stq mx_116 (pc' := 3) (L' := [some (.ref p0), some (.int p1), some (.int p2), none, none, none, none, none, none]) (st' := [.int p2, .int p1, .ref p0]) bo_116_0_8b3750 rfl ?_
  refine h_ck h (fun hc h => ?_)
  refine h_cR h (fun o2 M1 e h => ?_)
  refine EV_call [.ref p0, .int p1, .int p2] [] mx_116 li_116_3 rfl rfl si_10_141 rfl (by decide) (by decide) (by omega) ma_91 rfl (Nat.le_of_ble_eq_true rfl) rfl rfl (Nat.le_of_ble_eq_true rfl) (rc_1 mt_at_91 rfl rfl (by decide) hc) (e_sm_instanceAt (by omega) p0 p1 p2 M _ e) ?_
  refine h_onR (G := fun o => EV d 116 6 [some (.ref p0), some (.int p1), some (.int p2), none, none, none, none, none, none] [rfv o] M1 _) h (fun h => ?_) (fun a3 h => ?_)
  · refine EV_stq mx_116 (pc' := 11) (L' := [some (.ref p0), some (.int p1), some (.int p2), some (.null), none, none, none, none, none]) (st' := [.int (p1 - (1 : Int32)), .ref p0]) bo_116_6_1d8488 rfl ?_
    refine h_ck h (fun hc h => ?_)
    refine h_cI h (fun v5 M4 e h => ?_)
    refine EV_call [.ref p0, .int (p1 - (1 : Int32))] [] mx_116 li_116_11 rfl rfl si_10_129 rfl (by decide) (by decide) (by omega) ma_90 rfl (Nat.le_of_ble_eq_true rfl) rfl rfl (Nat.le_of_ble_eq_true rfl) (rc_1 mt_at_90 rfl rfl (by decide) hc) (e_sm_sizeOf (by omega) p0 (p1 - (1 : Int32)) M1 _ e) ?_
    show EV d 116 14 [some (.ref p0), some (.int p1), some (.int p2), some (.null), none, none, none, none, none] [.int v5] M4 _
    refine EV_stq mx_116 (pc' := 26) (L' := [some (.ref p0), some (.int p1), some (.int p2), some (.null), some (.int v5), none, none, none, none]) (st' := [.int (-1 : Int32)]) bo_116_14_1d0da1 rfl ?_
    obtain rfl := Option.some.inj h
    exact r_ret mx_116 li_116_26 rfl ro_int
  · refine EV_stq mx_116 (pc' := 11) (L' := [some (.ref p0), some (.int p1), some (.int p2), some (.ref a3), none, none, none, none, none]) (st' := [.int (p1 - (1 : Int32)), .ref p0]) bo_116_6_1d8488 rfl ?_
    refine h_ck h (fun hc h => ?_)
    refine h_cI h (fun v7 M6 e h => ?_)
    refine EV_call [.ref p0, .int (p1 - (1 : Int32))] [] mx_116 li_116_11 rfl rfl si_10_129 rfl (by decide) (by decide) (by omega) ma_90 rfl (Nat.le_of_ble_eq_true rfl) rfl rfl (Nat.le_of_ble_eq_true rfl) (rc_1 mt_at_90 rfl rfl (by decide) hc) (e_sm_sizeOf (by omega) p0 (p1 - (1 : Int32)) M1 _ e) ?_
    show EV d 116 14 [some (.ref p0), some (.int p1), some (.int p2), some (.ref a3), none, none, none, none, none] [.int v7] M6 _
    refine EV_stq mx_116 (pc' := 22) (L' := [some (.ref p0), some (.int p1), some (.int p2), some (.ref a3), some (.int v7), none, none, none, none]) (st' := [.int v7]) bo_116_14_d66257 rfl ?_
    refine h_gt h (fun h hc => ?_) (fun h hc => ?_)
    · refine r_ifT mx_116 li_116_22 (by decide) rfl hc ?_
      refine EV_stq mx_116 (pc' := 30) (L' := [some (.ref p0), some (.int p1), some (.int p2), some (.ref a3), some (.int v7), some (.int (0 : Int32)), none, none, none]) (st' := []) bo_116_27_fe3fdb rfl ?_
      exact e_sm_inputToTake_30 hd FU p0 p1 p2 a3 v7 (0 : Int32) M6 r h
    · refine r_ifF mx_116 li_116_22 (by decide) hc ?_
      refine EV_stq mx_116 (pc' := 26) (L' := [some (.ref p0), some (.int p1), some (.int p2), some (.ref a3), some (.int v7), none, none, none, none]) (st' := [.int (-1 : Int32)]) bo_116_25_1858f6 rfl ?_
      obtain rfl := Option.some.inj h
      exact r_ret mx_116 li_116_26 rfl ro_int
theorem e_ch_startsWithBarrier {d : Nat} (hd : 0 ≤ d) (p0 : Nat) (M : Mem) (r : Int32 × Mem) (h : f_ch_startsWithBarrier p0 M = some r) : EV d 117 0 (entL 1 [.ref p0]) [] M (some (.int r.1), r.2) := by
  show EV d 117 0 [some (.ref p0)] [] M _
  unfold f_ch_startsWithBarrier at h
  refine EV_stq mx_117 (pc' := 1) (L' := [some (.ref p0)]) (st' := [.ref p0]) bo_117_0_8d5162 rfl ?_
  refine r_gI mx_117 li_117_1 fd_9_26 ⟨by decide, by decide⟩ h (fun v1 h => ?_)
  refine h_le h (fun h hc => ?_) (fun h hc => ?_)
  · refine r_ifT mx_117 li_117_4 (by decide) rfl hc ?_
    refine EV_stq mx_117 (pc' := 27) (L' := [some (.ref p0)]) (st' := [.int (0 : Int32)]) bo_117_26_bd3b31 rfl ?_
    obtain rfl := Option.some.inj h
    exact r_ret mx_117 li_117_27 rfl (ro_nar (t := .boolean) (by decide) rfl)
  · refine r_ifF mx_117 li_117_4 (by decide) hc ?_
    refine EV_stq mx_117 (pc' := 8) (L' := [some (.ref p0)]) (st' := [.ref p0]) bo_117_7_9b264f rfl ?_
    refine r_gA mx_117 li_117_8 fd_9_18 rfl h (fun a2 h => ?_)
    refine EV_stq mx_117 (pc' := 12) (L' := [some (.ref p0)]) (st' := [.ref p0, .ref a2]) bo_117_11_081257 rfl ?_
    refine r_gI mx_117 li_117_12 fd_9_59 ⟨by decide, by decide⟩ h (fun v3 h => ?_)
    refine EV_stq mx_117 (pc' := 17) (L' := [some (.ref p0)]) (st' := [.int (v3 &&& (3 : Int32)), .ref a2]) bo_117_15_d45c32 rfl ?_
    refine r_aI mx_117 li_117_17 h (fun v4 h => ?_)
    refine EV_stq mx_117 (pc' := 19) (L' := [some (.ref p0)]) (st' := [.int (-1 : Int32), .int v4]) bo_117_18_2b31d8 rfl ?_
    refine h_ne h (fun h hc => ?_) (fun h hc => ?_)
    · refine r_icF mx_117 li_117_19 (by decide) hc ?_
      refine EV_stq mx_117 (pc' := 27) (L' := [some (.ref p0)]) (st' := [.int (1 : Int32)]) bo_117_22_13b32e rfl ?_
      obtain rfl := Option.some.inj h
      exact r_ret mx_117 li_117_27 rfl (ro_nar (t := .boolean) (by decide) rfl)
    · refine r_icT mx_117 li_117_19 (by decide) rfl hc ?_
      refine EV_stq mx_117 (pc' := 27) (L' := [some (.ref p0)]) (st' := [.int (0 : Int32)]) bo_117_26_bd3b31 rfl ?_
      obtain rfl := Option.some.inj h
      exact r_ret mx_117 li_117_27 rfl (ro_nar (t := .boolean) (by decide) rfl)
theorem e_ch_removeItem_52 {d : Nat} (hd : 1 ≤ d) (l0 : Nat) (M : Mem) (r : Mem) (h : f_ch_removeItem_52 l0 M = some r) : EV d 118 52 [some (.ref l0), none] [] M (none, r) := by
  unfold f_ch_removeItem_52 at h
  refine EV_stq mx_118 (pc' := 54) (L' := [some (.ref l0), none]) (st' := [.ref l0, .ref l0]) bo_118_52_9f6391 rfl ?_
  refine r_gI mx_118 li_118_54 fd_9_59 ⟨by decide, by decide⟩ h (fun v1 h => ?_)
  refine EV_stq mx_118 (pc' := 61) (L' := [some (.ref l0), none]) (st' := [.int ((v1 + (1 : Int32)) &&& (3 : Int32)), .ref l0]) bo_118_57_331af3 rfl ?_
  refine r_pI mx_118 li_118_61 fd_9_59 (Or.inl rfl) rfl h (fun M2 h => ?_)
  refine EV_stq mx_118 (pc' := 66) (L' := [some (.ref l0), none]) (st' := [.ref l0, .ref l0]) bo_118_64_23d05d rfl ?_
  refine r_gI mx_118 li_118_66 fd_9_26 ⟨by decide, by decide⟩ h (fun v3 h => ?_)
  refine EV_stq mx_118 (pc' := 71) (L' := [some (.ref l0), none]) (st' := [.int (v3 - (1 : Int32)), .ref l0]) bo_118_69_1aaecf rfl ?_
  refine r_pI mx_118 li_118_71 fd_9_26 (Or.inl rfl) rfl h (fun M4 h => ?_)
  obtain rfl := Option.some.inj h
  exact r_ret mx_118 li_118_74 rfl rfl
theorem e_ch_removeItem {d : Nat} (hd : 1 ≤ d) (p0 : Nat) (M : Mem) (r : Mem) (h : f_ch_removeItem p0 M = some r) : EV d 118 0 (entL 2 [.ref p0]) [] M (none, r) := by
  show EV d 118 0 [some (.ref p0), none] [] M _
  unfold f_ch_removeItem at h
  refine EV_stq mx_118 (pc' := 1) (L' := [some (.ref p0), none]) (st' := [.ref p0]) bo_118_0_8d5162 rfl ?_
  refine r_gI mx_118 li_118_1 fd_9_26 ⟨by decide, by decide⟩ h (fun v1 h => ?_)
  refine h_gt h (fun h hc => ?_) (fun h hc => ?_)
  · refine r_ifT mx_118 li_118_4 (by decide) rfl hc ?_
    refine EV_stq mx_118 (pc' := 9) (L' := [some (.ref p0), none]) (st' := [.ref p0]) bo_118_8_383530 rfl ?_
    refine r_gI mx_118 li_118_9 fd_9_59 ⟨by decide, by decide⟩ h (fun v2 h => ?_)
    refine EV_stq mx_118 (pc' := 16) (L' := [some (.ref p0), some (.int (v2 &&& (3 : Int32)))]) (st' := [.ref p0]) bo_118_12_011d94 rfl ?_
    refine r_gA mx_118 li_118_16 fd_9_18 rfl h (fun a3 h => ?_)
    refine EV_stq mx_118 (pc' := 20) (L' := [some (.ref p0), some (.int (v2 &&& (3 : Int32)))]) (st' := [.int (v2 &&& (3 : Int32)), .ref a3]) bo_118_19_1a8444 rfl ?_
    refine r_aI mx_118 li_118_20 h (fun v4 h => ?_)
    refine EV_stq mx_118 (pc' := 22) (L' := [some (.ref p0), some (.int (v2 &&& (3 : Int32)))]) (st' := [.int (-1 : Int32), .int v4]) bo_118_21_46c79c rfl ?_
    refine h_eq h (fun h hc => ?_) (fun h hc => ?_)
    · refine r_icT mx_118 li_118_22 (by decide) rfl hc ?_
      refine EV_forget (A := [some (.ref p0), none]) (lsub_of _ _ ⟨Or.inr rfl, ⟨Or.inl rfl, trivial⟩⟩) ?_
      exact e_ch_removeItem_52 hd p0 M r h
    · refine r_icF mx_118 li_118_22 (by decide) hc ?_
      refine EV_stq mx_118 (pc' := 26) (L' := [some (.ref p0), some (.int (v2 &&& (3 : Int32)))]) (st' := [.ref p0]) bo_118_25_1858f6 rfl ?_
      refine r_gA mx_118 li_118_26 fd_9_12 rfl h (fun a5 h => ?_)
      refine h_ck h (fun hc h => ?_)
      refine h_cV h (fun M6 e h => ?_)
      refine EV_call [.ref a5] [] mx_118 li_118_29 rfl rfl si_9_62 rfl (by decide) (by decide) (by omega) ma_108 rfl (Nat.le_of_ble_eq_true rfl) rfl rfl (Nat.le_of_ble_eq_true rfl) (rc_1 mt_at_108 rfl rfl (by decide) hc) (e_rc_removeFirst (by omega) a5 M _ e) ?_
      show EV d 118 32 [some (.ref p0), some (.int (v2 &&& (3 : Int32)))] [] M6 _
      refine EV_stq mx_118 (pc' := 33) (L' := [some (.ref p0), some (.int (v2 &&& (3 : Int32)))]) (st' := [.ref p0]) bo_118_32_191034 rfl ?_
      refine r_gA mx_118 li_118_33 fd_9_18 rfl h (fun a7 h => ?_)
      refine EV_stq mx_118 (pc' := 38) (L' := [some (.ref p0), some (.int (v2 &&& (3 : Int32)))]) (st' := [.int (v2 &&& (3 : Int32)), .ref a7, .int (v2 &&& (3 : Int32)), .ref a7]) bo_118_36_285c9e rfl ?_
      refine r_aI mx_118 li_118_38 h (fun v8 h => ?_)
      refine EV_stq mx_118 (pc' := 41) (L' := [some (.ref p0), some (.int (v2 &&& (3 : Int32)))]) (st' := [.int (v8 - (1 : Int32)), .int (v2 &&& (3 : Int32)), .ref a7]) bo_118_39_9c41c6 rfl ?_
      refine r_sI mx_118 li_118_41 h (fun M9 h => ?_)
      refine EV_stq mx_118 (pc' := 43) (L' := [some (.ref p0), some (.int (v2 &&& (3 : Int32)))]) (st' := [.ref p0]) bo_118_42_b358e7 rfl ?_
      refine r_gA mx_118 li_118_43 fd_9_18 rfl h (fun a10 h => ?_)
      refine EV_stq mx_118 (pc' := 47) (L' := [some (.ref p0), some (.int (v2 &&& (3 : Int32)))]) (st' := [.int (v2 &&& (3 : Int32)), .ref a10]) bo_118_46_4b02d4 rfl ?_
      refine r_aI mx_118 li_118_47 h (fun v11 h => ?_)
      refine h_le h (fun h hc => ?_) (fun h hc => ?_)
      · refine r_ifT mx_118 li_118_48 (by decide) rfl hc ?_
        refine EV_forget (A := [some (.ref p0), none]) (lsub_of _ _ ⟨Or.inr rfl, ⟨Or.inl rfl, trivial⟩⟩) ?_
        exact e_ch_removeItem_52 hd p0 M9 r h
      · refine r_ifF mx_118 li_118_48 (by decide) hc ?_
        obtain rfl := Option.some.inj h
        exact r_ret mx_118 li_118_51 rfl rfl
  · refine r_ifF mx_118 li_118_4 (by decide) hc ?_
    obtain rfl := Option.some.inj h
    exact r_ret mx_118 li_118_7 rfl rfl
theorem e_ky_copyKey {d : Nat} (hd : 0 ≤ d) (p0 : Nat) (p1 : Nat) (p2 : Int32) (M : Mem) (r : Mem) (h : f_ky_copyKey p0 p1 p2 M = some r) : EV d 119 0 (entL 5 [.ref p0, .ref p1, .int p2]) [] M (none, r) := by
  show EV d 119 0 [some (.ref p0), some (.ref p1), some (.int p2), none, none] [] M _
  unfold f_ky_copyKey at h
  refine EV_stq mx_119 (pc' := 11) (L' := [some (.ref p0), some (.ref p1), some (.int p2), some (.int (p2 &&& (15 : Int32))), some (.int ((1 : Int32) <<< ((p2 &&& (15 : Int32)) &&& 31)))]) (st' := [.ref p0]) bo_119_0_f744e6 rfl ?_
  refine r_gA mx_119 li_119_11 fd_6_9 rfl h (fun a1 h => ?_)
  refine EV_stq mx_119 (pc' := 16) (L' := [some (.ref p0), some (.ref p1), some (.int p2), some (.int (p2 &&& (15 : Int32))), some (.int ((1 : Int32) <<< ((p2 &&& (15 : Int32)) &&& 31)))]) (st' := [.ref p1, .int (p2 &&& (15 : Int32)), .ref a1]) bo_119_14_4d7356 rfl ?_
  refine r_gA mx_119 li_119_16 fd_6_9 rfl h (fun a2 h => ?_)
  refine EV_stq mx_119 (pc' := 20) (L' := [some (.ref p0), some (.ref p1), some (.int p2), some (.int (p2 &&& (15 : Int32))), some (.int ((1 : Int32) <<< ((p2 &&& (15 : Int32)) &&& 31)))]) (st' := [.int (p2 &&& (15 : Int32)), .ref a2, .int (p2 &&& (15 : Int32)), .ref a1]) bo_119_19_1a8444 rfl ?_
  refine r_aI mx_119 li_119_20 h (fun v3 h => ?_)
  refine r_sI mx_119 li_119_21 h (fun M4 h => ?_)
  refine EV_stq mx_119 (pc' := 23) (L' := [some (.ref p0), some (.ref p1), some (.int p2), some (.int (p2 &&& (15 : Int32))), some (.int ((1 : Int32) <<< ((p2 &&& (15 : Int32)) &&& 31)))]) (st' := [.ref p0]) bo_119_22_60ac31 rfl ?_
  refine r_gA mx_119 li_119_23 fd_6_15 rfl h (fun a5 h => ?_)
  refine EV_stq mx_119 (pc' := 28) (L' := [some (.ref p0), some (.ref p1), some (.int p2), some (.int (p2 &&& (15 : Int32))), some (.int ((1 : Int32) <<< ((p2 &&& (15 : Int32)) &&& 31)))]) (st' := [.ref p1, .int (p2 &&& (15 : Int32)), .ref a5]) bo_119_26_539da0 rfl ?_
  refine r_gA mx_119 li_119_28 fd_6_15 rfl h (fun a6 h => ?_)
  refine EV_stq mx_119 (pc' := 32) (L' := [some (.ref p0), some (.ref p1), some (.int p2), some (.int (p2 &&& (15 : Int32))), some (.int ((1 : Int32) <<< ((p2 &&& (15 : Int32)) &&& 31)))]) (st' := [.int (p2 &&& (15 : Int32)), .ref a6, .int (p2 &&& (15 : Int32)), .ref a5]) bo_119_31_c379e3 rfl ?_
  refine r_aI mx_119 li_119_32 h (fun v7 h => ?_)
  refine r_sI mx_119 li_119_33 h (fun M8 h => ?_)
  refine EV_stq mx_119 (pc' := 36) (L' := [some (.ref p0), some (.ref p1), some (.int p2), some (.int (p2 &&& (15 : Int32))), some (.int ((1 : Int32) <<< ((p2 &&& (15 : Int32)) &&& 31)))]) (st' := [.ref p0, .ref p0]) bo_119_34_812988 rfl ?_
  refine r_gI mx_119 li_119_36 fd_6_18 ⟨by decide, by decide⟩ h (fun v9 h => ?_)
  refine EV_stq mx_119 (pc' := 45) (L' := [some (.ref p0), some (.ref p1), some (.int p2), some (.int (p2 &&& (15 : Int32))), some (.int ((1 : Int32) <<< ((p2 &&& (15 : Int32)) &&& 31)))]) (st' := [.ref p1, .int (v9 &&& (((1 : Int32) <<< ((p2 &&& (15 : Int32)) &&& 31)) ^^^ (-1 : Int32))), .ref p0]) bo_119_39_6f9b56 rfl ?_
  refine r_gI mx_119 li_119_45 fd_6_18 ⟨by decide, by decide⟩ h (fun v10 h => ?_)
  refine EV_stq mx_119 (pc' := 52) (L' := [some (.ref p0), some (.ref p1), some (.int p2), some (.int (p2 &&& (15 : Int32))), some (.int ((1 : Int32) <<< ((p2 &&& (15 : Int32)) &&& 31)))]) (st' := [.int ((v9 &&& (((1 : Int32) <<< ((p2 &&& (15 : Int32)) &&& 31)) ^^^ (-1 : Int32))) ||| (v10 &&& ((1 : Int32) <<< ((p2 &&& (15 : Int32)) &&& 31)))), .ref p0]) bo_119_48_3c8c47 rfl ?_
  refine r_pI mx_119 li_119_52 fd_6_18 (Or.inl rfl) rfl h (fun M11 h => ?_)
  obtain rfl := Option.some.inj h
  exact r_ret mx_119 li_119_55 rfl rfl
theorem e_op_savePending_33 {d : Nat} (hd : 1 ≤ d) (k2 : Nat → Int32 → Int32 → Mem → Option (Mem)) (hk2 : ∀ l0 l1 l2 M r, k2 l0 l1 l2 M = some r → EV d 120 2 [some (.ref l0), some (.int l1), some (.int l2)] [] M (none, r)) (l0 : Nat) (l1 : Int32) (l2 : Int32) (M : Mem) (r : Mem) (h : f_op_savePending_33 k2 l0 l1 l2 M = some r) : EV d 120 33 [some (.ref l0), some (.int l1), some (.int l2)] [] M (none, r) := by
  unfold f_op_savePending_33 at h
  refine EV_stq mx_120 (pc' := 2) (L' := [some (.ref l0), some (.int l1), some (.int (l2 + (1 : Int32)))]) (st' := []) bo_120_33_4d8e72 rfl ?_
  exact hk2 l0 l1 (l2 + (1 : Int32)) M r h
theorem e_op_savePending_2 {d : Nat} (hd : 1 ≤ d) : ∀ (n : Nat) (l0 : Nat) (l1 : Int32) (l2 : Int32) (M : Mem) (r : Mem), f_op_savePending_2 n l0 l1 l2 M = some r → EV d 120 2 [some (.ref l0), some (.int l1), some (.int l2)] [] M (none, r) := by
  intro n
  induction n with
  | zero => intro l0 l1 l2 M r h; cases h
  | succ n ih =>
    intro l0 l1 l2 M r h
    unfold f_op_savePending_2 at h
    refine EV_stq mx_120 (pc' := 5) (L' := [some (.ref l0), some (.int l1), some (.int l2)]) (st' := [.int (16 : Int32), .int l2]) bo_120_2_d916f9 rfl ?_
    refine h_ge h (fun h hc => ?_) (fun h hc => ?_)
    · refine r_icT mx_120 li_120_5 (by decide) rfl hc ?_
      obtain rfl := Option.some.inj h
      exact r_ret mx_120 li_120_39 rfl rfl
    · refine r_icF mx_120 li_120_5 (by decide) hc ?_
      refine EV_stq mx_120 (pc' := 11) (L' := [some (.ref l0), some (.int l1), some (.int l2)]) (st' := [.ref l0, .int l2, .ref l0]) bo_120_8_325fca rfl ?_
      refine r_gI mx_120 li_120_11 fd_8_57 ⟨by decide, by decide⟩ h (fun v1 h => ?_)
      refine h_ck h (fun hc h => ?_)
      refine h_cI h (fun v3 M2 e h => ?_)
      refine EV_call [.ref l0, .int l2, .int v1] [] mx_120 li_120_14 rfl rfl si_8_64 rfl (by decide) (by decide) (by omega) ma_100 rfl (Nat.le_of_ble_eq_true rfl) rfl rfl (Nat.le_of_ble_eq_true rfl) (rc_1 mt_at_100 rfl rfl (by decide) hc) (e_op_ownerOf (by omega) l0 l2 v1 M _ e) ?_
      show EV d 120 17 [some (.ref l0), some (.int l1), some (.int l2)] [.int v3] M2 _
      refine EV_stq mx_120 (pc' := 18) (L' := [some (.ref l0), some (.int l1), some (.int l2)]) (st' := [.int l1, .int v3]) bo_120_17_509256 rfl ?_
      refine h_ne h (fun h hc => ?_) (fun h hc => ?_)
      · refine r_icF mx_120 li_120_18 (by decide) hc ?_
        refine EV_stq mx_120 (pc' := 22) (L' := [some (.ref l0), some (.int l1), some (.int l2)]) (st' := [.ref l0]) bo_120_21_46c79c rfl ?_
        refine r_gA mx_120 li_120_22 fd_8_24 rfl h (fun a4 h => ?_)
        refine EV_stq mx_120 (pc' := 26) (L' := [some (.ref l0), some (.int l1), some (.int l2)]) (st' := [.ref l0, .ref a4]) bo_120_25_1858f6 rfl ?_
        refine r_gA mx_120 li_120_26 fd_8_20 rfl h (fun a5 h => ?_)
        refine EV_stq mx_120 (pc' := 30) (L' := [some (.ref l0), some (.int l1), some (.int l2)]) (st' := [.int l2, .ref a5, .ref a4]) bo_120_29_2d7a5f rfl ?_
        refine h_ck h (fun hc h => ?_)
        refine h_cV h (fun M6 e h => ?_)
        refine EV_call [.ref a4, .ref a5, .int l2] [] mx_120 li_120_30 rfl rfl si_8_94 rfl (by decide) (by decide) (by omega) ma_119 rfl (Nat.le_of_ble_eq_true rfl) rfl rfl (Nat.le_of_ble_eq_true rfl) (rc_1 mt_at_119 rfl rfl (by decide) hc) (e_ky_copyKey (by omega) a4 a5 l2 M2 _ e) ?_
        show EV d 120 33 [some (.ref l0), some (.int l1), some (.int l2)] [] M6 _
        exact e_op_savePending_33 hd _ ih l0 l1 l2 M6 r h
      · refine r_icT mx_120 li_120_18 (by decide) rfl hc ?_
        exact e_op_savePending_33 hd _ ih l0 l1 l2 M2 r h
theorem e_op_savePending {d : Nat} (hd : 1 ≤ d) (p0 : Nat) (p1 : Int32) (M : Mem) (r : Mem) (h : f_op_savePending p0 p1 M = some r) : EV d 120 0 (entL 3 [.ref p0, .int p1]) [] M (none, r) := by
  show EV d 120 0 [some (.ref p0), some (.int p1), none] [] M _
  unfold f_op_savePending at h
  refine EV_stq mx_120 (pc' := 2) (L' := [some (.ref p0), some (.int p1), some (.int (0 : Int32))]) (st' := []) bo_120_0_264884 rfl ?_
  exact e_op_savePending_2 hd FU p0 p1 (0 : Int32) M r h
theorem e_sm_saveInstance {d : Nat} (hd : 2 ≤ d) (p0 : Nat) (p1 : Int32) (p2 : Nat) (p3 : Nat) (M : Mem) (r : Mem) (h : f_sm_saveInstance p0 p1 p2 p3 M = some r) : EV d 121 0 (entL 4 [.ref p0, .int p1, .ref p2, .ref p3]) [] M (none, r) := by
  show EV d 121 0 [some (.ref p0), some (.int p1), some (.ref p2), some (.ref p3)] [] M _
  unfold f_sm_saveInstance at h
  refine EV_stq mx_121 (pc' := 2) (L' := [some (.ref p0), some (.int p1), some (.ref p2), some (.ref p3)]) (st' := [.int (0 : Int32), .ref p3]) bo_121_0_264884 rfl ?_
  refine r_pI mx_121 li_121_2 fd_10_215 (Or.inl rfl) rfl h (fun M1 h => ?_)
  refine EV_stq mx_121 (pc' := 7) (L' := [some (.ref p0), some (.int p1), some (.ref p2), some (.ref p3)]) (st' := [.ref p3, .ref p3]) bo_121_5_ca77c4 rfl ?_
  refine r_gI mx_121 li_121_7 fd_10_145 ⟨by decide, by decide⟩ h (fun v2 h => ?_)
  refine r_pI mx_121 li_121_10 fd_10_150 (Or.inl rfl) rfl h (fun M3 h => ?_)
  refine EV_stq mx_121 (pc' := 15) (L' := [some (.ref p0), some (.int p1), some (.ref p2), some (.ref p3)]) (st' := [.int p1, .ref p2]) bo_121_13_1f05a9 rfl ?_
  refine h_ck h (fun hc h => ?_)
  refine h_cV h (fun M4 e h => ?_)
  refine EV_call [.ref p2, .int p1] [] mx_121 li_121_15 rfl rfl si_10_305 rfl (by decide) (by decide) (by omega) ma_120 rfl (Nat.le_of_ble_eq_true rfl) rfl rfl (Nat.le_of_ble_eq_true rfl) (rc_1 mt_at_120 rfl rfl (by decide) hc) (e_op_savePending (by omega) p2 p1 M3 _ e) ?_
  show EV d 121 18 [some (.ref p0), some (.int p1), some (.ref p2), some (.ref p3)] [] M4 _
  refine EV_stq mx_121 (pc' := 19) (L' := [some (.ref p0), some (.int p1), some (.ref p2), some (.ref p3)]) (st' := [.ref p2]) bo_121_18_2b31d8 rfl ?_
  refine r_gI mx_121 li_121_19 fd_10_295 ⟨by decide, by decide⟩ h (fun v5 h => ?_)
  refine EV_stq mx_121 (pc' := 24) (L' := [some (.ref p0), some (.int p1), some (.ref p2), some (.ref p3)]) (st' := [.int (8 : Int32), .int v5]) bo_121_22_60ac31 rfl ?_
  refine h_ne h (fun h hc => ?_) (fun h hc => ?_)
  · refine r_icF mx_121 li_121_24 (by decide) hc ?_
    refine EV_stq mx_121 (pc' := 29) (L' := [some (.ref p0), some (.int p1), some (.ref p2), some (.ref p3)]) (st' := [.ref p0, .ref p0]) bo_121_27_fe3fdb rfl ?_
    refine r_gI mx_121 li_121_29 fd_10_132 ⟨by decide, by decide⟩ h (fun v7 h => ?_)
    refine EV_stq mx_121 (pc' := 34) (L' := [some (.ref p0), some (.int p1), some (.ref p2), some (.ref p3)]) (st' := [.int (v7 - (1 : Int32)), .ref p0]) bo_121_32_dac25e rfl ?_
    refine r_pI mx_121 li_121_34 fd_10_132 (Or.inl rfl) rfl h (fun M8 h => ?_)
    refine EV_stq mx_121 (pc' := 45) (L' := [some (.ref p0), some (.int p1), some (.ref p2), some (.ref p3)]) (st' := []) bo_121_37_a21c9f rfl ?_
    obtain rfl := Option.some.inj h
    exact r_ret mx_121 li_121_45 rfl rfl
  · refine r_icT mx_121 li_121_24 (by decide) rfl hc ?_
    refine EV_stq mx_121 (pc' := 42) (L' := [some (.ref p0), some (.int p1), some (.ref p2), some (.ref p3)]) (st' := [.int (1 : Int32), .ref p3]) bo_121_40_20557d rfl ?_
    refine r_pZ mx_121 li_121_42 fd_10_153 (Or.inl rfl) rfl h (fun M6 h => ?_)
    obtain rfl := Option.some.inj h
    exact r_ret mx_121 li_121_45 rfl rfl
