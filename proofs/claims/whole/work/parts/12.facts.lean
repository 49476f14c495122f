/-! FACTS about methods and links -/
theorem mt_at_0 : mtabL[0]? = some mt_0 := rfl
theorem ma_0 : mtab[0]? = some mt_0 := rfl
theorem mx_0 : MX 0 0 true none il_0 := ⟨mt_0, mt_at_0, rfl, by decide +kernel, rfl, rfl⟩
theorem mt_at_1 : mtabL[1]? = some mt_1 := rfl
theorem ma_1 : mtab[1]? = some mt_1 := rfl
theorem mx_1 : MX 1 1 true none il_1 := ⟨mt_1, mt_at_1, rfl, by decide +kernel, rfl, rfl⟩
theorem mt_at_2 : mtabL[2]? = some mt_2 := rfl
theorem ma_2 : mtab[2]? = some mt_2 := rfl
theorem mx_2 : MX 2 2 true none il_2 := ⟨mt_2, mt_at_2, rfl, by decide +kernel, rfl, rfl⟩
theorem mt_at_3 : mtabL[3]? = some mt_3 := rfl
theorem ma_3 : mtab[3]? = some mt_3 := rfl
theorem mx_3 : MX 3 3 true none il_3 := ⟨mt_3, mt_at_3, rfl, by decide +kernel, rfl, rfl⟩
theorem mt_at_4 : mtabL[4]? = some mt_4 := rfl
theorem ma_4 : mtab[4]? = some mt_4 := rfl
theorem mx_4 : MX 4 4 true none il_4 := ⟨mt_4, mt_at_4, rfl, by decide +kernel, rfl, rfl⟩
theorem mt_at_5 : mtabL[5]? = some mt_5 := rfl
theorem ma_5 : mtab[5]? = some mt_5 := rfl
theorem mx_5 : MX 5 5 true none il_5 := ⟨mt_5, mt_at_5, rfl, by decide +kernel, rfl, rfl⟩
theorem mt_at_6 : mtabL[6]? = some mt_6 := rfl
theorem ma_6 : mtab[6]? = some mt_6 := rfl
theorem mx_6 : MX 6 6 true none il_6 := ⟨mt_6, mt_at_6, rfl, by decide +kernel, rfl, rfl⟩
theorem mt_at_7 : mtabL[7]? = some mt_7 := rfl
theorem ma_7 : mtab[7]? = some mt_7 := rfl
theorem mx_7 : MX 7 7 true none il_7 := ⟨mt_7, mt_at_7, rfl, by decide +kernel, rfl, rfl⟩
theorem mt_at_8 : mtabL[8]? = some mt_8 := rfl
theorem ma_8 : mtab[8]? = some mt_8 := rfl
theorem mx_8 : MX 8 8 false none il_8 := ⟨mt_8, mt_at_8, rfl, by decide +kernel, rfl, rfl⟩
theorem mt_at_9 : mtabL[9]? = some mt_9 := rfl
theorem ma_9 : mtab[9]? = some mt_9 := rfl
theorem mx_9 : MX 9 8 true none il_9 := ⟨mt_9, mt_at_9, rfl, by decide +kernel, rfl, rfl⟩
theorem mt_at_10 : mtabL[10]? = some mt_10 := rfl
theorem ma_10 : mtab[10]? = some mt_10 := rfl
theorem mx_10 : MX 10 9 true none il_10 := ⟨mt_10, mt_at_10, rfl, by decide +kernel, rfl, rfl⟩
theorem mt_at_11 : mtabL[11]? = some mt_11 := rfl
theorem ma_11 : mtab[11]? = some mt_11 := rfl
theorem mx_11 : MX 11 10 true none il_11 := ⟨mt_11, mt_at_11, rfl, by decide +kernel, rfl, rfl⟩
theorem mt_at_12 : mtabL[12]? = some mt_12 := rfl
theorem ma_12 : mtab[12]? = some mt_12 := rfl
theorem mx_12 : MX 12 11 true none il_12 := ⟨mt_12, mt_at_12, rfl, by decide +kernel, rfl, rfl⟩
theorem mt_at_13 : mtabL[13]? = some mt_13 := rfl
theorem ma_13 : mtab[13]? = some mt_13 := rfl
theorem mx_13 : MX 13 12 true none il_13 := ⟨mt_13, mt_at_13, rfl, by decide +kernel, rfl, rfl⟩
theorem mt_at_14 : mtabL[14]? = some mt_14 := rfl
theorem ma_14 : mtab[14]? = some mt_14 := rfl
theorem mx_14 : MX 14 13 true none il_14 := ⟨mt_14, mt_at_14, rfl, by decide +kernel, rfl, rfl⟩
theorem mt_at_15 : mtabL[15]? = some mt_15 := rfl
theorem ma_15 : mtab[15]? = some mt_15 := rfl
theorem mx_15 : MX 15 14 true none il_15 := ⟨mt_15, mt_at_15, rfl, by decide +kernel, rfl, rfl⟩
theorem mt_at_16 : mtabL[16]? = some mt_16 := rfl
theorem ma_16 : mtab[16]? = some mt_16 := rfl
theorem mx_16 : MX 16 0 false (some .int) il_16 := ⟨mt_16, mt_at_16, rfl, by decide +kernel, rfl, rfl⟩
theorem mt_at_17 : mtabL[17]? = some mt_17 := rfl
theorem ma_17 : mtab[17]? = some mt_17 := rfl
theorem mx_17 : MX 17 1 false (some .int) il_17 := ⟨mt_17, mt_at_17, rfl, by decide +kernel, rfl, rfl⟩
theorem mt_at_18 : mtabL[18]? = some mt_18 := rfl
theorem ma_18 : mtab[18]? = some mt_18 := rfl
theorem mx_18 : MX 18 15 false (some .int) il_18 := ⟨mt_18, mt_at_18, rfl, by decide +kernel, rfl, rfl⟩
theorem mt_at_19 : mtabL[19]? = some mt_19 := rfl
theorem ma_19 : mtab[19]? = some mt_19 := rfl
theorem mx_19 : MX 19 16 false (some .int) il_19 := ⟨mt_19, mt_at_19, rfl, by decide +kernel, rfl, rfl⟩
theorem mt_at_20 : mtabL[20]? = some mt_20 := rfl
theorem ma_20 : mtab[20]? = some mt_20 := rfl
theorem mx_20 : MX 20 0 false (some .int) il_20 := ⟨mt_20, mt_at_20, rfl, by decide +kernel, rfl, rfl⟩
theorem mt_at_21 : mtabL[21]? = some mt_21 := rfl
theorem ma_21 : mtab[21]? = some mt_21 := rfl
theorem mx_21 : MX 21 15 false (some .int) il_21 := ⟨mt_21, mt_at_21, rfl, by decide +kernel, rfl, rfl⟩
theorem mt_at_22 : mtabL[22]? = some mt_22 := rfl
theorem ma_22 : mtab[22]? = some mt_22 := rfl
theorem mx_22 : MX 22 17 false (some (.array .byte)) il_22 := ⟨mt_22, mt_at_22, rfl, by decide +kernel, rfl, rfl⟩
theorem mt_at_23 : mtabL[23]? = some mt_23 := rfl
theorem ma_23 : mtab[23]? = some mt_23 := rfl
theorem mx_23 : MX 23 0 false none il_23 := ⟨mt_23, mt_at_23, rfl, by decide +kernel, rfl, rfl⟩
theorem mt_at_24 : mtabL[24]? = some mt_24 := rfl
theorem ma_24 : mtab[24]? = some mt_24 := rfl
theorem mx_24 : MX 24 0 false (some .boolean) il_24 := ⟨mt_24, mt_at_24, rfl, by decide +kernel, rfl, rfl⟩
theorem mt_at_25 : mtabL[25]? = some mt_25 := rfl
theorem ma_25 : mtab[25]? = some mt_25 := rfl
theorem mx_25 : MX 25 18 false (some .boolean) il_25 := ⟨mt_25, mt_at_25, rfl, by decide +kernel, rfl, rfl⟩
theorem mt_at_26 : mtabL[26]? = some mt_26 := rfl
theorem ma_26 : mtab[26]? = some mt_26 := rfl
theorem mx_26 : MX 26 0 false (some (.object "java/lang/AbstractStringBuilder")) il_26 := ⟨mt_26, mt_at_26, rfl, by decide +kernel, rfl, rfl⟩
theorem mt_at_27 : mtabL[27]? = some mt_27 := rfl
theorem ma_27 : mtab[27]? = some mt_27 := rfl
theorem mx_27 : MX 27 1 false (some (.object "java/lang/StringBuilder")) il_27 := ⟨mt_27, mt_at_27, rfl, by decide +kernel, rfl, rfl⟩
theorem mt_at_28 : mtabL[28]? = some mt_28 := rfl
theorem ma_28 : mtab[28]? = some mt_28 := rfl
theorem mx_28 : MX 28 13 false (some .int) il_28 := ⟨mt_28, mt_at_28, rfl, by decide +kernel, rfl, rfl⟩
theorem mt_at_29 : mtabL[29]? = some mt_29 := rfl
theorem ma_29 : mtab[29]? = some mt_29 := rfl
theorem mx_29 : MX 29 14 false (some .boolean) il_29 := ⟨mt_29, mt_at_29, rfl, by decide +kernel, rfl, rfl⟩
theorem mt_at_30 : mtabL[30]? = some mt_30 := rfl
theorem ma_30 : mtab[30]? = some mt_30 := rfl
theorem mx_30 : MX 30 14 false (some .int) il_30 := ⟨mt_30, mt_at_30, rfl, by decide +kernel, rfl, rfl⟩
theorem mt_at_31 : mtabL[31]? = some mt_31 := rfl
theorem ma_31 : mtab[31]? = some mt_31 := rfl
theorem mx_31 : MX 31 19 false (some .int) il_31 := ⟨mt_31, mt_at_31, rfl, by decide +kernel, rfl, rfl⟩
theorem mt_at_32 : mtabL[32]? = some mt_32 := rfl
theorem ma_32 : mtab[32]? = some mt_32 := rfl
theorem mx_32 : MX 32 20 false none il_32 := ⟨mt_32, mt_at_32, rfl, by decide +kernel, rfl, rfl⟩
theorem mt_at_33 : mtabL[33]? = some mt_33 := rfl
theorem ma_33 : mtab[33]? = some mt_33 := rfl
theorem mx_33 : MX 33 0 false (some .char) il_33 := ⟨mt_33, mt_at_33, rfl, by decide +kernel, rfl, rfl⟩
theorem mt_at_34 : mtabL[34]? = some mt_34 := rfl
theorem ma_34 : mtab[34]? = some mt_34 := rfl
theorem mx_34 : MX 34 1 false (some .char) il_34 := ⟨mt_34, mt_at_34, rfl, by decide +kernel, rfl, rfl⟩
theorem mt_at_35 : mtabL[35]? = some mt_35 := rfl
theorem ma_35 : mtab[35]? = some mt_35 := rfl
theorem mx_35 : MX 35 2 false (some .int) il_35 := ⟨mt_35, mt_at_35, rfl, by decide +kernel, rfl, rfl⟩
theorem mt_at_36 : mtabL[36]? = some mt_36 := rfl
theorem ma_36 : mtab[36]? = some mt_36 := rfl
theorem mx_36 : MX 36 20 false (some .boolean) il_36 := ⟨mt_36, mt_at_36, rfl, by decide +kernel, rfl, rfl⟩
theorem mt_at_37 : mtabL[37]? = some mt_37 := rfl
theorem ma_37 : mtab[37]? = some mt_37 := rfl
theorem mx_37 : MX 37 20 false (some .byte) il_37 := ⟨mt_37, mt_at_37, rfl, by decide +kernel, rfl, rfl⟩
theorem mt_at_38 : mtabL[38]? = some mt_38 := rfl
theorem ma_38 : mtab[38]? = some mt_38 := rfl
theorem mx_38 : MX 38 20 false (some .int) il_38 := ⟨mt_38, mt_at_38, rfl, by decide +kernel, rfl, rfl⟩
theorem mt_at_39 : mtabL[39]? = some mt_39 := rfl
theorem ma_39 : mtab[39]? = some mt_39 := rfl
theorem mx_39 : MX 39 18 false (some .boolean) il_39 := ⟨mt_39, mt_at_39, rfl, by decide +kernel, rfl, rfl⟩
theorem mt_at_40 : mtabL[40]? = some mt_40 := rfl
theorem ma_40 : mtab[40]? = some mt_40 := rfl
theorem mx_40 : MX 40 18 false (some .int) il_40 := ⟨mt_40, mt_at_40, rfl, by decide +kernel, rfl, rfl⟩
theorem mt_at_41 : mtabL[41]? = some mt_41 := rfl
theorem ma_41 : mtab[41]? = some mt_41 := rfl
theorem mx_41 : MX 41 18 false (some .int) il_41 := ⟨mt_41, mt_at_41, rfl, by decide +kernel, rfl, rfl⟩
theorem mt_at_42 : mtabL[42]? = some mt_42 := rfl
theorem ma_42 : mtab[42]? = some mt_42 := rfl
theorem mx_42 : MX 42 20 false (some .int) il_42 := ⟨mt_42, mt_at_42, rfl, by decide +kernel, rfl, rfl⟩
theorem mt_at_43 : mtabL[43]? = some mt_43 := rfl
theorem ma_43 : mtab[43]? = some mt_43 := rfl
theorem mx_43 : MX 43 20 false (some .int) il_43 := ⟨mt_43, mt_at_43, rfl, by decide +kernel, rfl, rfl⟩
theorem mt_at_44 : mtabL[44]? = some mt_44 := rfl
theorem ma_44 : mtab[44]? = some mt_44 := rfl
theorem mx_44 : MX 44 13 false (some .int) il_44 := ⟨mt_44, mt_at_44, rfl, by decide +kernel, rfl, rfl⟩
theorem mt_at_45 : mtabL[45]? = some mt_45 := rfl
theorem ma_45 : mtab[45]? = some mt_45 := rfl
theorem mx_45 : MX 45 2 false (some .boolean) il_45 := ⟨mt_45, mt_at_45, rfl, by decide +kernel, rfl, rfl⟩
theorem mt_at_46 : mtabL[46]? = some mt_46 := rfl
theorem ma_46 : mtab[46]? = some mt_46 := rfl
theorem mx_46 : MX 46 2 false (some .boolean) il_46 := ⟨mt_46, mt_at_46, rfl, by decide +kernel, rfl, rfl⟩
theorem mt_at_47 : mtabL[47]? = some mt_47 := rfl
theorem ma_47 : mtab[47]? = some mt_47 := rfl
theorem mx_47 : MX 47 2 false (some .boolean) il_47 := ⟨mt_47, mt_at_47, rfl, by decide +kernel, rfl, rfl⟩
theorem mt_at_48 : mtabL[48]? = some mt_48 := rfl
theorem ma_48 : mtab[48]? = some mt_48 := rfl
theorem mx_48 : MX 48 2 false (some .boolean) il_48 := ⟨mt_48, mt_at_48, rfl, by decide +kernel, rfl, rfl⟩
theorem mt_at_49 : mtabL[49]? = some mt_49 := rfl
theorem ma_49 : mtab[49]? = some mt_49 := rfl
theorem mx_49 : MX 49 2 false (some .boolean) il_49 := ⟨mt_49, mt_at_49, rfl, by decide +kernel, rfl, rfl⟩
theorem mt_at_50 : mtabL[50]? = some mt_50 := rfl
theorem ma_50 : mtab[50]? = some mt_50 := rfl
theorem mx_50 : MX 50 2 false (some .int) il_50 := ⟨mt_50, mt_at_50, rfl, by decide +kernel, rfl, rfl⟩
theorem mt_at_51 : mtabL[51]? = some mt_51 := rfl
theorem ma_51 : mtab[51]? = some mt_51 := rfl
theorem mx_51 : MX 51 2 false (some .boolean) il_51 := ⟨mt_51, mt_at_51, rfl, by decide +kernel, rfl, rfl⟩
theorem mt_at_52 : mtabL[52]? = some mt_52 := rfl
theorem ma_52 : mtab[52]? = some mt_52 := rfl
theorem mx_52 : MX 52 2 false (some .boolean) il_52 := ⟨mt_52, mt_at_52, rfl, by decide +kernel, rfl, rfl⟩
theorem mt_at_53 : mtabL[53]? = some mt_53 := rfl
theorem ma_53 : mtab[53]? = some mt_53 := rfl
theorem mx_53 : MX 53 2 false (some .boolean) il_53 := ⟨mt_53, mt_at_53, rfl, by decide +kernel, rfl, rfl⟩
theorem mt_at_54 : mtabL[54]? = some mt_54 := rfl
theorem ma_54 : mtab[54]? = some mt_54 := rfl
theorem mx_54 : MX 54 0 false none il_54 := ⟨mt_54, mt_at_54, rfl, by decide +kernel, rfl, rfl⟩
theorem mt_at_55 : mtabL[55]? = some mt_55 := rfl
theorem ma_55 : mtab[55]? = some mt_55 := rfl
theorem mx_55 : MX 55 1 false none il_55 := ⟨mt_55, mt_at_55, rfl, by decide +kernel, rfl, rfl⟩
theorem mt_at_56 : mtabL[56]? = some mt_56 := rfl
theorem ma_56 : mtab[56]? = some mt_56 := rfl
theorem mx_56 : MX 56 10 false (some (.object "PipelineSimulator$Operator")) il_56 := ⟨mt_56, mt_at_56, rfl, by decide +kernel, rfl, rfl⟩
theorem mt_at_57 : mtabL[57]? = some mt_57 := rfl
theorem ma_57 : mtab[57]? = some mt_57 := rfl
theorem mx_57 : MX 57 17 false none il_57 := ⟨mt_57, mt_at_57, rfl, by decide +kernel, rfl, rfl⟩
theorem mt_at_58 : mtabL[58]? = some mt_58 := rfl
theorem ma_58 : mtab[58]? = some mt_58 := rfl
theorem mx_58 : MX 58 6 false none il_58 := ⟨mt_58, mt_at_58, rfl, by decide +kernel, rfl, rfl⟩
theorem mt_at_59 : mtabL[59]? = some mt_59 := rfl
theorem ma_59 : mtab[59]? = some mt_59 := rfl
theorem mx_59 : MX 59 7 false none il_59 := ⟨mt_59, mt_at_59, rfl, by decide +kernel, rfl, rfl⟩
theorem mt_at_60 : mtabL[60]? = some mt_60 := rfl
theorem ma_60 : mtab[60]? = some mt_60 := rfl
theorem mx_60 : MX 60 8 false none il_60 := ⟨mt_60, mt_at_60, rfl, by decide +kernel, rfl, rfl⟩
theorem mt_at_61 : mtabL[61]? = some mt_61 := rfl
theorem ma_61 : mtab[61]? = some mt_61 := rfl
theorem mx_61 : MX 61 8 false none il_61 := ⟨mt_61, mt_at_61, rfl, by decide +kernel, rfl, rfl⟩
theorem mt_at_62 : mtabL[62]? = some mt_62 := rfl
theorem ma_62 : mtab[62]? = some mt_62 := rfl
theorem mx_62 : MX 62 5 false none il_62 := ⟨mt_62, mt_at_62, rfl, by decide +kernel, rfl, rfl⟩
theorem mt_at_63 : mtabL[63]? = some mt_63 := rfl
theorem ma_63 : mtab[63]? = some mt_63 := rfl
theorem mx_63 : MX 63 4 false none il_63 := ⟨mt_63, mt_at_63, rfl, by decide +kernel, rfl, rfl⟩
theorem mt_at_64 : mtabL[64]? = some mt_64 := rfl
theorem ma_64 : mtab[64]? = some mt_64 := rfl
theorem mx_64 : MX 64 9 false none il_64 := ⟨mt_64, mt_at_64, rfl, by decide +kernel, rfl, rfl⟩
theorem mt_at_65 : mtabL[65]? = some mt_65 := rfl
theorem ma_65 : mtab[65]? = some mt_65 := rfl
theorem mx_65 : MX 65 6 false none il_65 := ⟨mt_65, mt_at_65, rfl, by decide +kernel, rfl, rfl⟩
theorem mt_at_66 : mtabL[66]? = some mt_66 := rfl
theorem ma_66 : mtab[66]? = some mt_66 := rfl
theorem mx_66 : MX 66 7 false none il_66 := ⟨mt_66, mt_at_66, rfl, by decide +kernel, rfl, rfl⟩
theorem mt_at_67 : mtabL[67]? = some mt_67 := rfl
theorem ma_67 : mtab[67]? = some mt_67 := rfl
theorem mx_67 : MX 67 8 false none il_67 := ⟨mt_67, mt_at_67, rfl, by decide +kernel, rfl, rfl⟩
theorem mt_at_68 : mtabL[68]? = some mt_68 := rfl
theorem ma_68 : mtab[68]? = some mt_68 := rfl
theorem mx_68 : MX 68 10 false none il_68 := ⟨mt_68, mt_at_68, rfl, by decide +kernel, rfl, rfl⟩
theorem mt_at_69 : mtabL[69]? = some mt_69 := rfl
theorem ma_69 : mtab[69]? = some mt_69 := rfl
theorem mx_69 : MX 69 10 false none il_69 := ⟨mt_69, mt_at_69, rfl, by decide +kernel, rfl, rfl⟩
theorem mt_at_70 : mtabL[70]? = some mt_70 := rfl
theorem ma_70 : mtab[70]? = some mt_70 := rfl
theorem mx_70 : MX 70 10 false none il_70 := ⟨mt_70, mt_at_70, rfl, by decide +kernel, rfl, rfl⟩
theorem mt_at_71 : mtabL[71]? = some mt_71 := rfl
theorem ma_71 : mtab[71]? = some mt_71 := rfl
theorem mx_71 : MX 71 11 false none il_71 := ⟨mt_71, mt_at_71, rfl, by decide +kernel, rfl, rfl⟩
theorem mt_at_72 : mtabL[72]? = some mt_72 := rfl
theorem ma_72 : mtab[72]? = some mt_72 := rfl
theorem mx_72 : MX 72 13 false (some .int) il_72 := ⟨mt_72, mt_at_72, rfl, by decide +kernel, rfl, rfl⟩
theorem mt_at_73 : mtabL[73]? = some mt_73 := rfl
theorem ma_73 : mtab[73]? = some mt_73 := rfl
theorem mx_73 : MX 73 14 false (some .int) il_73 := ⟨mt_73, mt_at_73, rfl, by decide +kernel, rfl, rfl⟩
theorem mt_at_74 : mtabL[74]? = some mt_74 := rfl
theorem ma_74 : mtab[74]? = some mt_74 := rfl
theorem mx_74 : MX 74 14 false (some .int) il_74 := ⟨mt_74, mt_at_74, rfl, by decide +kernel, rfl, rfl⟩
theorem mt_at_75 : mtabL[75]? = some mt_75 := rfl
theorem ma_75 : mtab[75]? = some mt_75 := rfl
theorem mx_75 : MX 75 14 false none il_75 := ⟨mt_75, mt_at_75, rfl, by decide +kernel, rfl, rfl⟩
theorem mt_at_76 : mtabL[76]? = some mt_76 := rfl
theorem ma_76 : mtab[76]? = some mt_76 := rfl
theorem mx_76 : MX 76 14 false (some .int) il_76 := ⟨mt_76, mt_at_76, rfl, by decide +kernel, rfl, rfl⟩
theorem mt_at_77 : mtabL[77]? = some mt_77 := rfl
theorem ma_77 : mtab[77]? = some mt_77 := rfl
theorem mx_77 : MX 77 14 false (some .int) il_77 := ⟨mt_77, mt_at_77, rfl, by decide +kernel, rfl, rfl⟩
theorem mt_at_78 : mtabL[78]? = some mt_78 := rfl
theorem ma_78 : mtab[78]? = some mt_78 := rfl
theorem mx_78 : MX 78 14 false none il_78 := ⟨mt_78, mt_at_78, rfl, by decide +kernel, rfl, rfl⟩
theorem mt_at_79 : mtabL[79]? = some mt_79 := rfl
theorem ma_79 : mtab[79]? = some mt_79 := rfl
theorem mx_79 : MX 79 14 false none il_79 := ⟨mt_79, mt_at_79, rfl, by decide +kernel, rfl, rfl⟩
theorem mt_at_80 : mtabL[80]? = some mt_80 := rfl
theorem ma_80 : mtab[80]? = some mt_80 := rfl
theorem mx_80 : MX 80 14 false none il_80 := ⟨mt_80, mt_at_80, rfl, by decide +kernel, rfl, rfl⟩
theorem mt_at_81 : mtabL[81]? = some mt_81 := rfl
theorem ma_81 : mtab[81]? = some mt_81 := rfl
theorem mx_81 : MX 81 14 false (some .int) il_81 := ⟨mt_81, mt_at_81, rfl, by decide +kernel, rfl, rfl⟩
theorem mt_at_82 : mtabL[82]? = some mt_82 := rfl
theorem ma_82 : mtab[82]? = some mt_82 := rfl
theorem mx_82 : MX 82 3 false (some .int) il_82 := ⟨mt_82, mt_at_82, rfl, by decide +kernel, rfl, rfl⟩
theorem mt_at_83 : mtabL[83]? = some mt_83 := rfl
theorem ma_83 : mtab[83]? = some mt_83 := rfl
theorem mx_83 : MX 83 3 false none il_83 := ⟨mt_83, mt_at_83, rfl, by decide +kernel, rfl, rfl⟩
theorem mt_at_84 : mtabL[84]? = some mt_84 := rfl
theorem ma_84 : mtab[84]? = some mt_84 := rfl
theorem mx_84 : MX 84 13 false (some .int) il_84 := ⟨mt_84, mt_at_84, rfl, by decide +kernel, rfl, rfl⟩
theorem mt_at_85 : mtabL[85]? = some mt_85 := rfl
theorem ma_85 : mtab[85]? = some mt_85 := rfl
theorem mx_85 : MX 85 14 false (some .int) il_85 := ⟨mt_85, mt_at_85, rfl, by decide +kernel, rfl, rfl⟩
theorem mt_at_86 : mtabL[86]? = some mt_86 := rfl
theorem ma_86 : mtab[86]? = some mt_86 := rfl
theorem mx_86 : MX 86 4 false none il_86 := ⟨mt_86, mt_at_86, rfl, by decide +kernel, rfl, rfl⟩
theorem mt_at_87 : mtabL[87]? = some mt_87 := rfl
theorem ma_87 : mtab[87]? = some mt_87 := rfl
theorem mx_87 : MX 87 13 false (some .int) il_87 := ⟨mt_87, mt_at_87, rfl, by decide +kernel, rfl, rfl⟩
theorem mt_at_88 : mtabL[88]? = some mt_88 := rfl
theorem ma_88 : mtab[88]? = some mt_88 := rfl
theorem mx_88 : MX 88 14 false (some .int) il_88 := ⟨mt_88, mt_at_88, rfl, by decide +kernel, rfl, rfl⟩
theorem mt_at_89 : mtabL[89]? = some mt_89 := rfl
theorem ma_89 : mtab[89]? = some mt_89 := rfl
theorem mx_89 : MX 89 9 false (some .boolean) il_89 := ⟨mt_89, mt_at_89, rfl, by decide +kernel, rfl, rfl⟩
theorem mt_at_90 : mtabL[90]? = some mt_90 := rfl
theorem ma_90 : mtab[90]? = some mt_90 := rfl
theorem mx_90 : MX 90 10 false (some .int) il_90 := ⟨mt_90, mt_at_90, rfl, by decide +kernel, rfl, rfl⟩
theorem mt_at_91 : mtabL[91]? = some mt_91 := rfl
theorem ma_91 : mtab[91]? = some mt_91 := rfl
theorem mx_91 : MX 91 10 false (some (.object "PipelineSimulator$Instance")) il_91 := ⟨mt_91, mt_at_91, rfl, by decide +kernel, rfl, rfl⟩
theorem mt_at_92 : mtabL[92]? = some mt_92 := rfl
theorem ma_92 : mtab[92]? = some mt_92 := rfl
theorem mx_92 : MX 92 10 false (some .int) il_92 := ⟨mt_92, mt_at_92, rfl, by decide +kernel, rfl, rfl⟩
theorem mt_at_93 : mtabL[93]? = some mt_93 := rfl
theorem ma_93 : mtab[93]? = some mt_93 := rfl
theorem mx_93 : MX 93 10 false (some .boolean) il_93 := ⟨mt_93, mt_at_93, rfl, by decide +kernel, rfl, rfl⟩
theorem mt_at_94 : mtabL[94]? = some mt_94 := rfl
theorem ma_94 : mtab[94]? = some mt_94 := rfl
theorem mx_94 : MX 94 9 false (some .boolean) il_94 := ⟨mt_94, mt_at_94, rfl, by decide +kernel, rfl, rfl⟩
theorem mt_at_95 : mtabL[95]? = some mt_95 := rfl
theorem ma_95 : mtab[95]? = some mt_95 := rfl
theorem mx_95 : MX 95 9 false none il_95 := ⟨mt_95, mt_at_95, rfl, by decide +kernel, rfl, rfl⟩
theorem mt_at_96 : mtabL[96]? = some mt_96 := rfl
theorem ma_96 : mtab[96]? = some mt_96 := rfl
theorem mx_96 : MX 96 9 false none il_96 := ⟨mt_96, mt_at_96, rfl, by decide +kernel, rfl, rfl⟩
theorem mt_at_97 : mtabL[97]? = some mt_97 := rfl
theorem ma_97 : mtab[97]? = some mt_97 := rfl
theorem mx_97 : MX 97 9 false none il_97 := ⟨mt_97, mt_at_97, rfl, by decide +kernel, rfl, rfl⟩
theorem mt_at_98 : mtabL[98]? = some mt_98 := rfl
theorem ma_98 : mtab[98]? = some mt_98 := rfl
theorem mx_98 : MX 98 8 false (some .boolean) il_98 := ⟨mt_98, mt_at_98, rfl, by decide +kernel, rfl, rfl⟩
theorem mt_at_99 : mtabL[99]? = some mt_99 := rfl
theorem ma_99 : mtab[99]? = some mt_99 := rfl
theorem mx_99 : MX 99 4 false (some .int) il_99 := ⟨mt_99, mt_at_99, rfl, by decide +kernel, rfl, rfl⟩
theorem mt_at_100 : mtabL[100]? = some mt_100 := rfl
theorem ma_100 : mtab[100]? = some mt_100 := rfl
theorem mx_100 : MX 100 8 false (some .int) il_100 := ⟨mt_100, mt_at_100, rfl, by decide +kernel, rfl, rfl⟩
theorem mt_at_101 : mtabL[101]? = some mt_101 := rfl
theorem ma_101 : mtab[101]? = some mt_101 := rfl
theorem mx_101 : MX 101 15 false (some .int) il_101 := ⟨mt_101, mt_at_101, rfl, by decide +kernel, rfl, rfl⟩
theorem mt_at_102 : mtabL[102]? = some mt_102 := rfl
theorem ma_102 : mtab[102]? = some mt_102 := rfl
theorem mx_102 : MX 102 10 false (some .int) il_102 := ⟨mt_102, mt_at_102, rfl, by decide +kernel, rfl, rfl⟩
theorem mt_at_103 : mtabL[103]? = some mt_103 := rfl
theorem ma_103 : mtab[103]? = some mt_103 := rfl
theorem mx_103 : MX 103 10 false (some (.object "PipelineSimulator$Channel")) il_103 := ⟨mt_103, mt_at_103, rfl, by decide +kernel, rfl, rfl⟩
theorem mt_at_104 : mtabL[104]? = some mt_104 := rfl
theorem ma_104 : mtab[104]? = some mt_104 := rfl
theorem mx_104 : MX 104 9 false (some .boolean) il_104 := ⟨mt_104, mt_at_104, rfl, by decide +kernel, rfl, rfl⟩
theorem mt_at_105 : mtabL[105]? = some mt_105 := rfl
theorem ma_105 : mtab[105]? = some mt_105 := rfl
theorem mx_105 : MX 105 4 false (some .int) il_105 := ⟨mt_105, mt_at_105, rfl, by decide +kernel, rfl, rfl⟩
theorem mt_at_106 : mtabL[106]? = some mt_106 := rfl
theorem ma_106 : mtab[106]? = some mt_106 := rfl
theorem mx_106 : MX 106 4 false (some .int) il_106 := ⟨mt_106, mt_at_106, rfl, by decide +kernel, rfl, rfl⟩
theorem mt_at_107 : mtabL[107]? = some mt_107 := rfl
theorem ma_107 : mtab[107]? = some mt_107 := rfl
theorem mx_107 : MX 107 9 false none il_107 := ⟨mt_107, mt_at_107, rfl, by decide +kernel, rfl, rfl⟩
theorem mt_at_108 : mtabL[108]? = some mt_108 := rfl
theorem ma_108 : mtab[108]? = some mt_108 := rfl
theorem mx_108 : MX 108 4 false none il_108 := ⟨mt_108, mt_at_108, rfl, by decide +kernel, rfl, rfl⟩
theorem mt_at_109 : mtabL[109]? = some mt_109 := rfl
theorem ma_109 : mtab[109]? = some mt_109 := rfl
theorem mx_109 : MX 109 10 false (some .boolean) il_109 := ⟨mt_109, mt_at_109, rfl, by decide +kernel, rfl, rfl⟩
theorem mt_at_110 : mtabL[110]? = some mt_110 := rfl
theorem ma_110 : mtab[110]? = some mt_110 := rfl
theorem mx_110 : MX 110 9 false (some .boolean) il_110 := ⟨mt_110, mt_at_110, rfl, by decide +kernel, rfl, rfl⟩
theorem mt_at_111 : mtabL[111]? = some mt_111 := rfl
theorem ma_111 : mtab[111]? = some mt_111 := rfl
theorem mx_111 : MX 111 10 false (some .int) il_111 := ⟨mt_111, mt_at_111, rfl, by decide +kernel, rfl, rfl⟩
theorem mt_at_112 : mtabL[112]? = some mt_112 := rfl
theorem ma_112 : mtab[112]? = some mt_112 := rfl
theorem mx_112 : MX 112 9 false none il_112 := ⟨mt_112, mt_at_112, rfl, by decide +kernel, rfl, rfl⟩
theorem mt_at_113 : mtabL[113]? = some mt_113 := rfl
theorem ma_113 : mtab[113]? = some mt_113 := rfl
theorem mx_113 : MX 113 10 false (some .boolean) il_113 := ⟨mt_113, mt_at_113, rfl, by decide +kernel, rfl, rfl⟩
theorem mt_at_114 : mtabL[114]? = some mt_114 := rfl
theorem ma_114 : mtab[114]? = some mt_114 := rfl
theorem mx_114 : MX 114 10 false (some .boolean) il_114 := ⟨mt_114, mt_at_114, rfl, by decide +kernel, rfl, rfl⟩
theorem mt_at_115 : mtabL[115]? = some mt_115 := rfl
theorem ma_115 : mtab[115]? = some mt_115 := rfl
theorem mx_115 : MX 115 9 false (some .boolean) il_115 := ⟨mt_115, mt_at_115, rfl, by decide +kernel, rfl, rfl⟩
theorem mt_at_116 : mtabL[116]? = some mt_116 := rfl
theorem ma_116 : mtab[116]? = some mt_116 := rfl
theorem mx_116 : MX 116 10 false (some .int) il_116 := ⟨mt_116, mt_at_116, rfl, by decide +kernel, rfl, rfl⟩
theorem mt_at_117 : mtabL[117]? = some mt_117 := rfl
theorem ma_117 : mtab[117]? = some mt_117 := rfl
theorem mx_117 : MX 117 9 false (some .boolean) il_117 := ⟨mt_117, mt_at_117, rfl, by decide +kernel, rfl, rfl⟩
theorem mt_at_118 : mtabL[118]? = some mt_118 := rfl
theorem ma_118 : mtab[118]? = some mt_118 := rfl
theorem mx_118 : MX 118 9 false none il_118 := ⟨mt_118, mt_at_118, rfl, by decide +kernel, rfl, rfl⟩
theorem mt_at_119 : mtabL[119]? = some mt_119 := rfl
theorem ma_119 : mtab[119]? = some mt_119 := rfl
theorem mx_119 : MX 119 6 false none il_119 := ⟨mt_119, mt_at_119, rfl, by decide +kernel, rfl, rfl⟩
theorem mt_at_120 : mtabL[120]? = some mt_120 := rfl
theorem ma_120 : mtab[120]? = some mt_120 := rfl
theorem mx_120 : MX 120 8 false none il_120 := ⟨mt_120, mt_at_120, rfl, by decide +kernel, rfl, rfl⟩
theorem mt_at_121 : mtabL[121]? = some mt_121 := rfl
theorem ma_121 : mtab[121]? = some mt_121 := rfl
theorem mx_121 : MX 121 10 false none il_121 := ⟨mt_121, mt_at_121, rfl, by decide +kernel, rfl, rfl⟩
theorem mt_at_122 : mtabL[122]? = some mt_122 := rfl
theorem ma_122 : mtab[122]? = some mt_122 := rfl
theorem mx_122 : MX 122 17 false (some (.array .int)) il_122 := ⟨mt_122, mt_at_122, rfl, by decide +kernel, rfl, rfl⟩
theorem mt_at_123 : mtabL[123]? = some mt_123 := rfl
theorem ma_123 : mtab[123]? = some mt_123 := rfl
theorem mx_123 : MX 123 5 false none il_123 := ⟨mt_123, mt_at_123, rfl, by decide +kernel, rfl, rfl⟩
theorem mt_at_124 : mtabL[124]? = some mt_124 := rfl
theorem ma_124 : mtab[124]? = some mt_124 := rfl
theorem mx_124 : MX 124 8 false (some .boolean) il_124 := ⟨mt_124, mt_at_124, rfl, by decide +kernel, rfl, rfl⟩
theorem mt_at_125 : mtabL[125]? = some mt_125 := rfl
theorem ma_125 : mtab[125]? = some mt_125 := rfl
theorem mx_125 : MX 125 6 false (some .int) il_125 := ⟨mt_125, mt_at_125, rfl, by decide +kernel, rfl, rfl⟩
theorem mt_at_126 : mtabL[126]? = some mt_126 := rfl
theorem ma_126 : mtab[126]? = some mt_126 := rfl
theorem mx_126 : MX 126 6 false (some .int) il_126 := ⟨mt_126, mt_at_126, rfl, by decide +kernel, rfl, rfl⟩
theorem mt_at_127 : mtabL[127]? = some mt_127 := rfl
theorem ma_127 : mtab[127]? = some mt_127 := rfl
theorem mx_127 : MX 127 6 false none il_127 := ⟨mt_127, mt_at_127, rfl, by decide +kernel, rfl, rfl⟩
theorem mt_at_128 : mtabL[128]? = some mt_128 := rfl
theorem ma_128 : mtab[128]? = some mt_128 := rfl
theorem mx_128 : MX 128 6 false none il_128 := ⟨mt_128, mt_at_128, rfl, by decide +kernel, rfl, rfl⟩
theorem mt_at_129 : mtabL[129]? = some mt_129 := rfl
theorem ma_129 : mtab[129]? = some mt_129 := rfl
theorem mx_129 : MX 129 8 false none il_129 := ⟨mt_129, mt_at_129, rfl, by decide +kernel, rfl, rfl⟩
theorem mt_at_130 : mtabL[130]? = some mt_130 := rfl
theorem ma_130 : mtab[130]? = some mt_130 := rfl
theorem mx_130 : MX 130 6 false (some .boolean) il_130 := ⟨mt_130, mt_at_130, rfl, by decide +kernel, rfl, rfl⟩
theorem mt_at_131 : mtabL[131]? = some mt_131 := rfl
theorem ma_131 : mtab[131]? = some mt_131 := rfl
theorem mx_131 : MX 131 8 false none il_131 := ⟨mt_131, mt_at_131, rfl, by decide +kernel, rfl, rfl⟩
theorem mt_at_132 : mtabL[132]? = some mt_132 := rfl
theorem ma_132 : mtab[132]? = some mt_132 := rfl
theorem mx_132 : MX 132 10 false (some .boolean) il_132 := ⟨mt_132, mt_at_132, rfl, by decide +kernel, rfl, rfl⟩
theorem mt_at_133 : mtabL[133]? = some mt_133 := rfl
theorem ma_133 : mtab[133]? = some mt_133 := rfl
theorem mx_133 : MX 133 10 false none il_133 := ⟨mt_133, mt_at_133, rfl, by decide +kernel, rfl, rfl⟩
theorem mt_at_134 : mtabL[134]? = some mt_134 := rfl
theorem ma_134 : mtab[134]? = some mt_134 := rfl
theorem mx_134 : MX 134 8 false none il_134 := ⟨mt_134, mt_at_134, rfl, by decide +kernel, rfl, rfl⟩
theorem mt_at_135 : mtabL[135]? = some mt_135 := rfl
theorem ma_135 : mtab[135]? = some mt_135 := rfl
theorem mx_135 : MX 135 10 false none il_135 := ⟨mt_135, mt_at_135, rfl, by decide +kernel, rfl, rfl⟩
theorem mt_at_136 : mtabL[136]? = some mt_136 := rfl
theorem ma_136 : mtab[136]? = some mt_136 := rfl
theorem mx_136 : MX 136 10 false none il_136 := ⟨mt_136, mt_at_136, rfl, by decide +kernel, rfl, rfl⟩
theorem mt_at_137 : mtabL[137]? = some mt_137 := rfl
theorem ma_137 : mtab[137]? = some mt_137 := rfl
theorem mx_137 : MX 137 13 false (some .int) il_137 := ⟨mt_137, mt_at_137, rfl, by decide +kernel, rfl, rfl⟩
theorem mt_at_138 : mtabL[138]? = some mt_138 := rfl
theorem ma_138 : mtab[138]? = some mt_138 := rfl
theorem mx_138 : MX 138 14 false (some .boolean) il_138 := ⟨mt_138, mt_at_138, rfl, by decide +kernel, rfl, rfl⟩
theorem mt_at_139 : mtabL[139]? = some mt_139 := rfl
theorem ma_139 : mtab[139]? = some mt_139 := rfl
theorem mx_139 : MX 139 14 false none il_139 := ⟨mt_139, mt_at_139, rfl, by decide +kernel, rfl, rfl⟩
theorem mt_at_140 : mtabL[140]? = some mt_140 := rfl
theorem ma_140 : mtab[140]? = some mt_140 := rfl
theorem mx_140 : MX 140 14 false (some .int) il_140 := ⟨mt_140, mt_at_140, rfl, by decide +kernel, rfl, rfl⟩
theorem mt_at_141 : mtabL[141]? = some mt_141 := rfl
theorem ma_141 : mtab[141]? = some mt_141 := rfl
theorem mx_141 : MX 141 14 false (some .int) il_141 := ⟨mt_141, mt_at_141, rfl, by decide +kernel, rfl, rfl⟩
theorem mt_at_142 : mtabL[142]? = some mt_142 := rfl
theorem ma_142 : mtab[142]? = some mt_142 := rfl
theorem mx_142 : MX 142 14 false (some .boolean) il_142 := ⟨mt_142, mt_at_142, rfl, by decide +kernel, rfl, rfl⟩
theorem mt_at_143 : mtabL[143]? = some mt_143 := rfl
theorem ma_143 : mtab[143]? = some mt_143 := rfl
theorem mx_143 : MX 143 14 false (some .int) il_143 := ⟨mt_143, mt_at_143, rfl, by decide +kernel, rfl, rfl⟩
theorem mt_at_144 : mtabL[144]? = some mt_144 := rfl
theorem ma_144 : mtab[144]? = some mt_144 := rfl
theorem mx_144 : MX 144 14 false (some .int) il_144 := ⟨mt_144, mt_at_144, rfl, by decide +kernel, rfl, rfl⟩
theorem mt_at_145 : mtabL[145]? = some mt_145 := rfl
theorem ma_145 : mtab[145]? = some mt_145 := rfl
theorem mx_145 : MX 145 14 false (some .int) il_145 := ⟨mt_145, mt_at_145, rfl, by decide +kernel, rfl, rfl⟩
theorem mt_at_146 : mtabL[146]? = some mt_146 := rfl
theorem ma_146 : mtab[146]? = some mt_146 := rfl
theorem mx_146 : MX 146 14 false (some .boolean) il_146 := ⟨mt_146, mt_at_146, rfl, by decide +kernel, rfl, rfl⟩
theorem mt_at_147 : mtabL[147]? = some mt_147 := rfl
theorem ma_147 : mtab[147]? = some mt_147 := rfl
theorem mx_147 : MX 147 14 false none il_147 := ⟨mt_147, mt_at_147, rfl, by decide +kernel, rfl, rfl⟩
theorem mt_at_148 : mtabL[148]? = some mt_148 := rfl
theorem ma_148 : mtab[148]? = some mt_148 := rfl
theorem mx_148 : MX 148 14 false (some .boolean) il_148 := ⟨mt_148, mt_at_148, rfl, by decide +kernel, rfl, rfl⟩
theorem mt_at_149 : mtabL[149]? = some mt_149 := rfl
theorem ma_149 : mtab[149]? = some mt_149 := rfl
theorem mx_149 : MX 149 14 false (some .int) il_149 := ⟨mt_149, mt_at_149, rfl, by decide +kernel, rfl, rfl⟩
theorem mt_at_150 : mtabL[150]? = some mt_150 := rfl
theorem ma_150 : mtab[150]? = some mt_150 := rfl
theorem mx_150 : MX 150 14 false none il_150 := ⟨mt_150, mt_at_150, rfl, by decide +kernel, rfl, rfl⟩
theorem mt_at_151 : mtabL[151]? = some mt_151 := rfl
theorem ma_151 : mtab[151]? = some mt_151 := rfl
theorem mx_151 : MX 151 14 false (some .boolean) il_151 := ⟨mt_151, mt_at_151, rfl, by decide +kernel, rfl, rfl⟩
theorem mt_at_152 : mtabL[152]? = some mt_152 := rfl
theorem ma_152 : mtab[152]? = some mt_152 := rfl
theorem mx_152 : MX 152 14 false none il_152 := ⟨mt_152, mt_at_152, rfl, by decide +kernel, rfl, rfl⟩
theorem mt_at_153 : mtabL[153]? = some mt_153 := rfl
theorem ma_153 : mtab[153]? = some mt_153 := rfl
theorem mx_153 : MX 153 14 false (some .int) il_153 := ⟨mt_153, mt_at_153, rfl, by decide +kernel, rfl, rfl⟩
theorem mt_at_154 : mtabL[154]? = some mt_154 := rfl
theorem ma_154 : mtab[154]? = some mt_154 := rfl
theorem mx_154 : MX 154 14 false none il_154 := ⟨mt_154, mt_at_154, rfl, by decide +kernel, rfl, rfl⟩
theorem mt_at_155 : mtabL[155]? = some mt_155 := rfl
theorem ma_155 : mtab[155]? = some mt_155 := rfl
theorem mx_155 : MX 155 14 false none il_155 := ⟨mt_155, mt_at_155, rfl, by decide +kernel, rfl, rfl⟩
theorem mt_at_156 : mtabL[156]? = some mt_156 := rfl
theorem ma_156 : mtab[156]? = some mt_156 := rfl
theorem mx_156 : MX 156 14 false none il_156 := ⟨mt_156, mt_at_156, rfl, by decide +kernel, rfl, rfl⟩
theorem mt_at_157 : mtabL[157]? = some mt_157 := rfl
theorem ma_157 : mtab[157]? = some mt_157 := rfl
theorem mx_157 : MX 157 14 false none il_157 := ⟨mt_157, mt_at_157, rfl, by decide +kernel, rfl, rfl⟩
theorem mt_at_158 : mtabL[158]? = some mt_158 := rfl
theorem ma_158 : mtab[158]? = some mt_158 := rfl
theorem mx_158 : MX 158 14 false none il_158 := ⟨mt_158, mt_at_158, rfl, by decide +kernel, rfl, rfl⟩
theorem mt_at_159 : mtabL[159]? = some mt_159 := rfl
theorem ma_159 : mtab[159]? = some mt_159 := rfl
theorem mx_159 : MX 159 14 false (some .int) il_159 := ⟨mt_159, mt_at_159, rfl, by decide +kernel, rfl, rfl⟩
theorem mt_at_160 : mtabL[160]? = some mt_160 := rfl
theorem ma_160 : mtab[160]? = some mt_160 := rfl
theorem mx_160 : MX 160 14 false none il_160 := ⟨mt_160, mt_at_160, rfl, by decide +kernel, rfl, rfl⟩
theorem mt_at_161 : mtabL[161]? = some mt_161 := rfl
theorem ma_161 : mtab[161]? = some mt_161 := rfl
theorem mx_161 : MX 161 14 false none il_161 := ⟨mt_161, mt_at_161, rfl, by decide +kernel, rfl, rfl⟩
theorem mt_at_162 : mtabL[162]? = some mt_162 := rfl
theorem ma_162 : mtab[162]? = some mt_162 := rfl
theorem mx_162 : MX 162 14 false (some .boolean) il_162 := ⟨mt_162, mt_at_162, rfl, by decide +kernel, rfl, rfl⟩
theorem mt_at_163 : mtabL[163]? = some mt_163 := rfl
theorem ma_163 : mtab[163]? = some mt_163 := rfl
theorem mx_163 : MX 163 14 false none il_163 := ⟨mt_163, mt_at_163, rfl, by decide +kernel, rfl, rfl⟩
theorem mt_at_164 : mtabL[164]? = some mt_164 := rfl
theorem ma_164 : mtab[164]? = some mt_164 := rfl
theorem mx_164 : MX 164 14 false none il_164 := ⟨mt_164, mt_at_164, rfl, by decide +kernel, rfl, rfl⟩
theorem mt_at_165 : mtabL[165]? = some mt_165 := rfl
theorem ma_165 : mtab[165]? = some mt_165 := rfl
theorem mx_165 : MX 165 14 false (some .int) il_165 := ⟨mt_165, mt_at_165, rfl, by decide +kernel, rfl, rfl⟩
theorem mt_at_166 : mtabL[166]? = some mt_166 := rfl
theorem ma_166 : mtab[166]? = some mt_166 := rfl
theorem mx_166 : MX 166 13 false (some .int) il_166 := ⟨mt_166, mt_at_166, rfl, by decide +kernel, rfl, rfl⟩
theorem mt_at_167 : mtabL[167]? = some mt_167 := rfl
theorem ma_167 : mtab[167]? = some mt_167 := rfl
theorem mx_167 : MX 167 14 false (some .int) il_167 := ⟨mt_167, mt_at_167, rfl, by decide +kernel, rfl, rfl⟩
theorem mt_at_168 : mtabL[168]? = some mt_168 := rfl
theorem ma_168 : mtab[168]? = some mt_168 := rfl
theorem mx_168 : MX 168 10 false none il_168 := ⟨mt_168, mt_at_168, rfl, by decide +kernel, rfl, rfl⟩
theorem mt_at_169 : mtabL[169]? = some mt_169 := rfl
theorem ma_169 : mtab[169]? = some mt_169 := rfl
theorem mx_169 : MX 169 13 false (some .int) il_169 := ⟨mt_169, mt_at_169, rfl, by decide +kernel, rfl, rfl⟩
theorem mt_at_170 : mtabL[170]? = some mt_170 := rfl
theorem ma_170 : mtab[170]? = some mt_170 := rfl
theorem mx_170 : MX 170 14 false (some .int) il_170 := ⟨mt_170, mt_at_170, rfl, by decide +kernel, rfl, rfl⟩
theorem mt_at_171 : mtabL[171]? = some mt_171 := rfl
theorem ma_171 : mtab[171]? = some mt_171 := rfl
theorem mx_171 : MX 171 10 false none il_171 := ⟨mt_171, mt_at_171, rfl, by decide +kernel, rfl, rfl⟩
theorem mt_at_172 : mtabL[172]? = some mt_172 := rfl
theorem ma_172 : mtab[172]? = some mt_172 := rfl
theorem mx_172 : MX 172 13 false (some .int) il_172 := ⟨mt_172, mt_at_172, rfl, by decide +kernel, rfl, rfl⟩
theorem mt_at_173 : mtabL[173]? = some mt_173 := rfl
theorem ma_173 : mtab[173]? = some mt_173 := rfl
theorem mx_173 : MX 173 14 false (some .int) il_173 := ⟨mt_173, mt_at_173, rfl, by decide +kernel, rfl, rfl⟩
theorem mt_at_174 : mtabL[174]? = some mt_174 := rfl
theorem ma_174 : mtab[174]? = some mt_174 := rfl
theorem mx_174 : MX 174 8 false (some .int) il_174 := ⟨mt_174, mt_at_174, rfl, by decide +kernel, rfl, rfl⟩
theorem mt_at_175 : mtabL[175]? = some mt_175 := rfl
theorem ma_175 : mtab[175]? = some mt_175 := rfl
theorem mx_175 : MX 175 10 false (some .int) il_175 := ⟨mt_175, mt_at_175, rfl, by decide +kernel, rfl, rfl⟩
theorem mt_at_176 : mtabL[176]? = some mt_176 := rfl
theorem ma_176 : mtab[176]? = some mt_176 := rfl
theorem mx_176 : MX 176 13 false (some .int) il_176 := ⟨mt_176, mt_at_176, rfl, by decide +kernel, rfl, rfl⟩
theorem mt_at_177 : mtabL[177]? = some mt_177 := rfl
theorem ma_177 : mtab[177]? = some mt_177 := rfl
theorem mx_177 : MX 177 14 false (some .boolean) il_177 := ⟨mt_177, mt_at_177, rfl, by decide +kernel, rfl, rfl⟩
theorem mt_at_178 : mtabL[178]? = some mt_178 := rfl
theorem ma_178 : mtab[178]? = some mt_178 := rfl
theorem mx_178 : MX 178 14 false (some .int) il_178 := ⟨mt_178, mt_at_178, rfl, by decide +kernel, rfl, rfl⟩
theorem mt_at_179 : mtabL[179]? = some mt_179 := rfl
theorem ma_179 : mtab[179]? = some mt_179 := rfl
theorem mx_179 : MX 179 10 false (some .int) il_179 := ⟨mt_179, mt_at_179, rfl, by decide +kernel, rfl, rfl⟩
theorem mt_at_180 : mtabL[180]? = some mt_180 := rfl
theorem ma_180 : mtab[180]? = some mt_180 := rfl
theorem mx_180 : MX 180 10 false (some .int) il_180 := ⟨mt_180, mt_at_180, rfl, by decide +kernel, rfl, rfl⟩
theorem mt_at_181 : mtabL[181]? = some mt_181 := rfl
theorem ma_181 : mtab[181]? = some mt_181 := rfl
theorem mx_181 : MX 181 13 false (some .int) il_181 := ⟨mt_181, mt_at_181, rfl, by decide +kernel, rfl, rfl⟩
theorem mt_at_182 : mtabL[182]? = some mt_182 := rfl
theorem ma_182 : mtab[182]? = some mt_182 := rfl
theorem mx_182 : MX 182 14 false (some .int) il_182 := ⟨mt_182, mt_at_182, rfl, by decide +kernel, rfl, rfl⟩
theorem mt_at_183 : mtabL[183]? = some mt_183 := rfl
theorem ma_183 : mtab[183]? = some mt_183 := rfl
theorem mx_183 : MX 183 14 false (some .int) il_183 := ⟨mt_183, mt_at_183, rfl, by decide +kernel, rfl, rfl⟩
theorem mt_at_184 : mtabL[184]? = some mt_184 := rfl
theorem ma_184 : mtab[184]? = some mt_184 := rfl
theorem mx_184 : MX 184 13 false (some .int) il_184 := ⟨mt_184, mt_at_184, rfl, by decide +kernel, rfl, rfl⟩
theorem mt_at_185 : mtabL[185]? = some mt_185 := rfl
theorem ma_185 : mtab[185]? = some mt_185 := rfl
theorem mx_185 : MX 185 14 false (some .int) il_185 := ⟨mt_185, mt_at_185, rfl, by decide +kernel, rfl, rfl⟩
theorem mt_at_186 : mtabL[186]? = some mt_186 := rfl
theorem ma_186 : mtab[186]? = some mt_186 := rfl
theorem mx_186 : MX 186 8 false (some .int) il_186 := ⟨mt_186, mt_at_186, rfl, by decide +kernel, rfl, rfl⟩
theorem mt_at_187 : mtabL[187]? = some mt_187 := rfl
theorem ma_187 : mtab[187]? = some mt_187 := rfl
theorem mx_187 : MX 187 13 false (some .int) il_187 := ⟨mt_187, mt_at_187, rfl, by decide +kernel, rfl, rfl⟩
theorem mt_at_188 : mtabL[188]? = some mt_188 := rfl
theorem ma_188 : mtab[188]? = some mt_188 := rfl
theorem mx_188 : MX 188 14 false (some .int) il_188 := ⟨mt_188, mt_at_188, rfl, by decide +kernel, rfl, rfl⟩
theorem mt_at_189 : mtabL[189]? = some mt_189 := rfl
theorem ma_189 : mtab[189]? = some mt_189 := rfl
theorem mx_189 : MX 189 14 false (some .int) il_189 := ⟨mt_189, mt_at_189, rfl, by decide +kernel, rfl, rfl⟩
theorem mt_at_190 : mtabL[190]? = some mt_190 := rfl
theorem ma_190 : mtab[190]? = some mt_190 := rfl
theorem mx_190 : MX 190 13 false (some .int) il_190 := ⟨mt_190, mt_at_190, rfl, by decide +kernel, rfl, rfl⟩
theorem mt_at_191 : mtabL[191]? = some mt_191 := rfl
theorem ma_191 : mtab[191]? = some mt_191 := rfl
theorem mx_191 : MX 191 14 false (some .int) il_191 := ⟨mt_191, mt_at_191, rfl, by decide +kernel, rfl, rfl⟩
theorem mt_at_192 : mtabL[192]? = some mt_192 := rfl
theorem ma_192 : mtab[192]? = some mt_192 := rfl
theorem mx_192 : MX 192 13 false (some .int) il_192 := ⟨mt_192, mt_at_192, rfl, by decide +kernel, rfl, rfl⟩
theorem mt_at_193 : mtabL[193]? = some mt_193 := rfl
theorem ma_193 : mtab[193]? = some mt_193 := rfl
theorem mx_193 : MX 193 13 false (some .int) il_193 := ⟨mt_193, mt_at_193, rfl, by decide +kernel, rfl, rfl⟩
theorem mt_at_194 : mtabL[194]? = some mt_194 := rfl
theorem ma_194 : mtab[194]? = some mt_194 := rfl
theorem mx_194 : MX 194 14 false (some .int) il_194 := ⟨mt_194, mt_at_194, rfl, by decide +kernel, rfl, rfl⟩
theorem mt_at_195 : mtabL[195]? = some mt_195 := rfl
theorem ma_195 : mtab[195]? = some mt_195 := rfl
theorem mx_195 : MX 195 14 false (some .int) il_195 := ⟨mt_195, mt_at_195, rfl, by decide +kernel, rfl, rfl⟩
theorem mt_at_196 : mtabL[196]? = some mt_196 := rfl
theorem ma_196 : mtab[196]? = some mt_196 := rfl
theorem mx_196 : MX 196 13 false (some .int) il_196 := ⟨mt_196, mt_at_196, rfl, by decide +kernel, rfl, rfl⟩
theorem mt_at_197 : mtabL[197]? = some mt_197 := rfl
theorem ma_197 : mtab[197]? = some mt_197 := rfl
theorem mx_197 : MX 197 14 false (some .int) il_197 := ⟨mt_197, mt_at_197, rfl, by decide +kernel, rfl, rfl⟩
theorem mt_at_198 : mtabL[198]? = some mt_198 := rfl
theorem ma_198 : mtab[198]? = some mt_198 := rfl
theorem mx_198 : MX 198 5 false (some .int) il_198 := ⟨mt_198, mt_at_198, rfl, by decide +kernel, rfl, rfl⟩
theorem mt_at_199 : mtabL[199]? = some mt_199 := rfl
theorem ma_199 : mtab[199]? = some mt_199 := rfl
theorem mx_199 : MX 199 13 false (some .int) il_199 := ⟨mt_199, mt_at_199, rfl, by decide +kernel, rfl, rfl⟩
theorem mt_at_200 : mtabL[200]? = some mt_200 := rfl
theorem ma_200 : mtab[200]? = some mt_200 := rfl
theorem mx_200 : MX 200 14 false (some .int) il_200 := ⟨mt_200, mt_at_200, rfl, by decide +kernel, rfl, rfl⟩
theorem mt_at_201 : mtabL[201]? = some mt_201 := rfl
theorem ma_201 : mtab[201]? = some mt_201 := rfl
theorem mx_201 : MX 201 11 false none il_201 := ⟨mt_201, mt_at_201, rfl, by decide +kernel, rfl, rfl⟩
theorem mt_at_202 : mtabL[202]? = some mt_202 := rfl
theorem ma_202 : mtab[202]? = some mt_202 := rfl
theorem mx_202 : MX 202 11 false none il_202 := ⟨mt_202, mt_at_202, rfl, by decide +kernel, rfl, rfl⟩
theorem mt_at_203 : mtabL[203]? = some mt_203 := rfl
theorem ma_203 : mtab[203]? = some mt_203 := rfl
theorem mx_203 : MX 203 13 false (some .int) il_203 := ⟨mt_203, mt_at_203, rfl, by decide +kernel, rfl, rfl⟩
theorem mt_at_204 : mtabL[204]? = some mt_204 := rfl
theorem ma_204 : mtab[204]? = some mt_204 := rfl
theorem mx_204 : MX 204 14 false none il_204 := ⟨mt_204, mt_at_204, rfl, by decide +kernel, rfl, rfl⟩
theorem mt_at_205 : mtabL[205]? = some mt_205 := rfl
theorem ma_205 : mtab[205]? = some mt_205 := rfl
theorem mx_205 : MX 205 14 false (some .int) il_205 := ⟨mt_205, mt_at_205, rfl, by decide +kernel, rfl, rfl⟩
theorem mt_at_206 : mtabL[206]? = some mt_206 := rfl
theorem ma_206 : mtab[206]? = some mt_206 := rfl
theorem mx_206 : MX 206 12 false (some .int) il_206 := ⟨mt_206, mt_at_206, rfl, by decide +kernel, rfl, rfl⟩
theorem mt_at_207 : mtabL[207]? = some mt_207 := rfl
theorem ma_207 : mtab[207]? = some mt_207 := rfl
theorem mx_207 : MX 207 12 false (some .int) il_207 := ⟨mt_207, mt_at_207, rfl, by decide +kernel, rfl, rfl⟩
theorem mt_at_208 : mtabL[208]? = some mt_208 := rfl
theorem ma_208 : mtab[208]? = some mt_208 := rfl
theorem mx_208 : MX 208 12 false (some .int) il_208 := ⟨mt_208, mt_at_208, rfl, by decide +kernel, rfl, rfl⟩
theorem mt_at_209 : mtabL[209]? = some mt_209 := rfl
theorem ma_209 : mtab[209]? = some mt_209 := rfl
theorem mx_209 : MX 209 12 false (some .int) il_209 := ⟨mt_209, mt_at_209, rfl, by decide +kernel, rfl, rfl⟩
theorem mt_at_210 : mtabL[210]? = some mt_210 := rfl
theorem ma_210 : mtab[210]? = some mt_210 := rfl
theorem mx_210 : MX 210 13 false (some .int) il_210 := ⟨mt_210, mt_at_210, rfl, by decide +kernel, rfl, rfl⟩
theorem mt_at_211 : mtabL[211]? = some mt_211 := rfl
theorem ma_211 : mtab[211]? = some mt_211 := rfl
theorem mx_211 : MX 211 14 false (some .int) il_211 := ⟨mt_211, mt_at_211, rfl, by decide +kernel, rfl, rfl⟩
theorem mt_at_212 : mtabL[212]? = some mt_212 := rfl
theorem ma_212 : mtab[212]? = some mt_212 := rfl
theorem mx_212 : MX 212 14 false (some .int) il_212 := ⟨mt_212, mt_at_212, rfl, by decide +kernel, rfl, rfl⟩
theorem mt_at_213 : mtabL[213]? = some mt_213 := rfl
theorem ma_213 : mtab[213]? = some mt_213 := rfl
theorem mx_213 : MX 213 13 false (some .int) il_213 := ⟨mt_213, mt_at_213, rfl, by decide +kernel, rfl, rfl⟩
theorem mt_at_214 : mtabL[214]? = some mt_214 := rfl
theorem ma_214 : mtab[214]? = some mt_214 := rfl
theorem mx_214 : MX 214 14 false (some .int) il_214 := ⟨mt_214, mt_at_214, rfl, by decide +kernel, rfl, rfl⟩
theorem mt_at_215 : mtabL[215]? = some mt_215 := rfl
theorem ma_215 : mtab[215]? = some mt_215 := rfl
theorem mx_215 : MX 215 18 false (some .char) il_215 := ⟨mt_215, mt_at_215, rfl, by decide +kernel, rfl, rfl⟩
theorem mt_at_216 : mtabL[216]? = some mt_216 := rfl
theorem ma_216 : mtab[216]? = some mt_216 := rfl
theorem mx_216 : MX 216 20 false (some .char) il_216 := ⟨mt_216, mt_at_216, rfl, by decide +kernel, rfl, rfl⟩
theorem mt_at_217 : mtabL[217]? = some mt_217 := rfl
theorem ma_217 : mtab[217]? = some mt_217 := rfl
theorem mx_217 : MX 217 21 false (some .int) il_217 := ⟨mt_217, mt_at_217, rfl, by decide +kernel, rfl, rfl⟩
theorem mt_at_218 : mtabL[218]? = some mt_218 := rfl
theorem ma_218 : mtab[218]? = some mt_218 := rfl
theorem mx_218 : MX 218 21 false (some .int) il_218 := ⟨mt_218, mt_at_218, rfl, by decide +kernel, rfl, rfl⟩
theorem mt_at_219 : mtabL[219]? = some mt_219 := rfl
theorem ma_219 : mtab[219]? = some mt_219 := rfl
theorem mx_219 : MX 219 0 false (some (.object "java/lang/AbstractStringBuilder")) il_219 := ⟨mt_219, mt_at_219, rfl, by decide +kernel, rfl, rfl⟩
theorem mt_at_220 : mtabL[220]? = some mt_220 := rfl
theorem ma_220 : mtab[220]? = some mt_220 := rfl
theorem mx_220 : MX 220 1 false (some (.object "java/lang/StringBuilder")) il_220 := ⟨mt_220, mt_at_220, rfl, by decide +kernel, rfl, rfl⟩
theorem mt_at_221 : mtabL[221]? = some mt_221 := rfl
theorem ma_221 : mtab[221]? = some mt_221 := rfl
theorem mx_221 : MX 221 13 false none il_221 := ⟨mt_221, mt_at_221, rfl, by decide +kernel, rfl, rfl⟩
theorem mt_at_222 : mtabL[222]? = some mt_222 := rfl
theorem ma_222 : mtab[222]? = some mt_222 := rfl
theorem mx_222 : MX 222 13 false (some .int) il_222 := ⟨mt_222, mt_at_222, rfl, by decide +kernel, rfl, rfl⟩
theorem mt_at_223 : mtabL[223]? = some mt_223 := rfl
theorem ma_223 : mtab[223]? = some mt_223 := rfl
theorem mx_223 : MX 223 14 false none il_223 := ⟨mt_223, mt_at_223, rfl, by decide +kernel, rfl, rfl⟩
theorem mt_at_224 : mtabL[224]? = some mt_224 := rfl
theorem ma_224 : mtab[224]? = some mt_224 := rfl
theorem mx_224 : MX 224 14 false none il_224 := ⟨mt_224, mt_at_224, rfl, by decide +kernel, rfl, rfl⟩
theorem mt_at_225 : mtabL[225]? = some mt_225 := rfl
theorem ma_225 : mtab[225]? = some mt_225 := rfl
theorem mx_225 : MX 225 14 false (some .int) il_225 := ⟨mt_225, mt_at_225, rfl, by decide +kernel, rfl, rfl⟩
theorem mt_at_226 : mtabL[226]? = some mt_226 := rfl
theorem ma_226 : mtab[226]? = some mt_226 := rfl
theorem mx_226 : MX 226 13 false (some .int) il_226 := ⟨mt_226, mt_at_226, rfl, by decide +kernel, rfl, rfl⟩
theorem mt_at_227 : mtabL[227]? = some mt_227 := rfl
theorem ma_227 : mtab[227]? = some mt_227 := rfl
theorem mx_227 : MX 227 14 false (some .int) il_227 := ⟨mt_227, mt_at_227, rfl, by decide +kernel, rfl, rfl⟩
theorem mt_at_228 : mtabL[228]? = some mt_228 := rfl
theorem ma_228 : mtab[228]? = some mt_228 := rfl
theorem mx_228 : MX 228 13 false (some .int) il_228 := ⟨mt_228, mt_at_228, rfl, by decide +kernel, rfl, rfl⟩
theorem mt_at_229 : mtabL[229]? = some mt_229 := rfl
theorem ma_229 : mtab[229]? = some mt_229 := rfl
theorem mx_229 : MX 229 14 false (some .int) il_229 := ⟨mt_229, mt_at_229, rfl, by decide +kernel, rfl, rfl⟩
theorem mt_at_230 : mtabL[230]? = some mt_230 := rfl
theorem mx_230 : MX 230 22 false (some .boolean) il_230 := ⟨mt_230, mt_at_230, rfl, by decide +kernel, rfl, rfl⟩
theorem fd_0_15 : flds.lookup (0, 15) = some (13, 0, 0, 118) := by decide +kernel
theorem fd_0_22 : flds.lookup (0, 22) = some (13, 1, 0, 119) := by decide +kernel
theorem fd_2_9 : flds.lookup (2, 9) = some (7, 1, 0, 139) := by decide +kernel
theorem fd_2_15 : flds.lookup (2, 15) = some (7, 2, 0, 141) := by decide +kernel
theorem fd_2_18 : flds.lookup (2, 18) = some (7, 3, 0, 143) := by decide +kernel
theorem fd_2_21 : flds.lookup (2, 21) = some (7, 4, 0, 145) := by decide +kernel
theorem fd_2_24 : flds.lookup (2, 24) = some (7, 0, 0, 138) := by decide +kernel
theorem fd_3_7 : flds.lookup (3, 7) = some (9, 0, 0, 186) := by decide +kernel
theorem fd_3_13 : flds.lookup (3, 13) = some (9, 1, 0, 188) := by decide +kernel
theorem fd_3_16 : flds.lookup (3, 16) = some (9, 2, 0, 190) := by decide +kernel
theorem fd_3_19 : flds.lookup (3, 19) = some (9, 3, 0, 193) := by decide +kernel
theorem fd_4_7 : flds.lookup (4, 7) = some (8, 0, 0, 210) := by decide +kernel
theorem fd_4_13 : flds.lookup (4, 13) = some (8, 1, 0, 211) := by decide +kernel
theorem fd_4_16 : flds.lookup (4, 16) = some (8, 2, 0, 212) := by decide +kernel
theorem fd_4_19 : flds.lookup (4, 19) = some (8, 3, 0, 213) := by decide +kernel
theorem fd_5_7 : flds.lookup (5, 7) = some (4, 0, 0, 243) := by decide +kernel
theorem fd_6_9 : flds.lookup (6, 9) = some (3, 0, 0, 268) := by decide +kernel
theorem fd_6_15 : flds.lookup (6, 15) = some (3, 1, 0, 269) := by decide +kernel
theorem fd_7_12 : flds.lookup (7, 12) = some (2, 0, 0, 287) := by decide +kernel
theorem fd_8_47 : flds.lookup (8, 47) = some (5, 6, 0, 340) := by decide +kernel
theorem fd_8_51 : flds.lookup (8, 51) = some (5, 7, 0, 343) := by decide +kernel
theorem fd_8_54 : flds.lookup (8, 54) = some (5, 8, 0, 345) := by decide +kernel
theorem fd_8_57 : flds.lookup (8, 57) = some (5, 9, 0, 347) := by decide +kernel
theorem fd_8_11 : flds.lookup (8, 11) = some (5, 0, 0, 327) := by decide +kernel
theorem fd_8_20 : flds.lookup (8, 20) = some (5, 1, 0, 329) := by decide +kernel
theorem fd_8_24 : flds.lookup (8, 24) = some (5, 2, 0, 332) := by decide +kernel
theorem fd_8_27 : flds.lookup (8, 27) = some (5, 3, 0, 333) := by decide +kernel
theorem fd_8_30 : flds.lookup (8, 30) = some (5, 4, 0, 335) := by decide +kernel
theorem fd_8_38 : flds.lookup (8, 38) = some (5, 5, 0, 338) := by decide +kernel
theorem fd_9_12 : flds.lookup (9, 12) = some (0, 1, 0, 399) := by decide +kernel
theorem fd_9_18 : flds.lookup (9, 18) = some (0, 2, 0, 402) := by decide +kernel
theorem fd_9_22 : flds.lookup (9, 22) = some (0, 0, 0, 398) := by decide +kernel
theorem fd_10_12 : flds.lookup (10, 12) = some (10, 0, 0, 425) := by decide +kernel
theorem fd_10_23 : flds.lookup (10, 23) = some (10, 1, 0, 427) := by decide +kernel
theorem fd_10_29 : flds.lookup (10, 29) = some (10, 2, 0, 431) := by decide +kernel
theorem fd_10_35 : flds.lookup (10, 35) = some (10, 3, 0, 432) := by decide +kernel
theorem fd_10_42 : flds.lookup (10, 42) = some (10, 4, 0, 433) := by decide +kernel
theorem fd_11_9 : flds.lookup (11, 9) = some (6, 0, 0, 492) := by decide +kernel
theorem fd_12_9 : flds.lookup (12, 9) = some (1, 1, 0, 506) := by decide +kernel
theorem fd_12_15 : flds.lookup (12, 15) = some (1, 2, 0, 508) := by decide +kernel
theorem fd_12_18 : flds.lookup (12, 18) = some (1, 0, 0, 505) := by decide +kernel
theorem fd_13_10 : flds.lookup (13, 10) = some (11, 0, 0, 521) := by decide +kernel
theorem fd_13_16 : flds.lookup (13, 16) = some (11, 1, 0, 522) := by decide +kernel
theorem fd_13_24 : flds.lookup (13, 24) = some (11, 2, 0, 523) := by decide +kernel
theorem fd_13_31 : flds.lookup (13, 31) = some (11, 3, 0, 524) := by decide +kernel
theorem fd_13_40 : flds.lookup (13, 40) = some (11, 4, 0, 525) := by decide +kernel
theorem fd_13_47 : flds.lookup (13, 47) = some (11, 5, 0, 526) := by decide +kernel
theorem fd_14_9 : flds.lookup (14, 9) = some (12, 0, 0, 1298) := by decide +kernel
theorem fd_14_13 : flds.lookup (14, 13) = some (12, 3, 0, 1301) := by decide +kernel
theorem fd_14_16 : flds.lookup (14, 16) = some (12, 4, 0, 1302) := by decide +kernel
theorem fd_14_19 : flds.lookup (14, 19) = some (12, 5, 0, 1303) := by decide +kernel
theorem fd_14_22 : flds.lookup (14, 22) = some (12, 6, 0, 1304) := by decide +kernel
theorem fd_14_25 : flds.lookup (14, 25) = some (12, 7, 0, 1305) := by decide +kernel
theorem fd_14_29 : flds.lookup (14, 29) = some (12, 8, 0, 1306) := by decide +kernel
theorem fd_14_32 : flds.lookup (14, 32) = some (12, 9, 0, 1307) := by decide +kernel
theorem fd_14_35 : flds.lookup (14, 35) = some (12, 10, 0, 1308) := by decide +kernel
theorem fd_14_38 : flds.lookup (14, 38) = some (12, 11, 0, 1309) := by decide +kernel
theorem fd_14_41 : flds.lookup (14, 41) = some (12, 12, 0, 1310) := by decide +kernel
theorem fd_14_44 : flds.lookup (14, 44) = some (12, 20, 0, 1318) := by decide +kernel
theorem fd_14_47 : flds.lookup (14, 47) = some (12, 21, 0, 1319) := by decide +kernel
theorem fd_14_50 : flds.lookup (14, 50) = some (12, 22, 0, 1320) := by decide +kernel
theorem fd_14_53 : flds.lookup (14, 53) = some (12, 23, 0, 1321) := by decide +kernel
theorem fd_14_56 : flds.lookup (14, 56) = some (12, 24, 0, 1322) := by decide +kernel
theorem fd_14_60 : flds.lookup (14, 60) = some (12, 25, 0, 1323) := by decide +kernel
theorem fd_14_63 : flds.lookup (14, 63) = some (12, 26, 0, 1324) := by decide +kernel
theorem fd_14_66 : flds.lookup (14, 66) = some (12, 27, 0, 1325) := by decide +kernel
theorem fd_14_69 : flds.lookup (14, 69) = some (12, 28, 0, 1326) := by decide +kernel
theorem fd_14_72 : flds.lookup (14, 72) = some (12, 29, 0, 1327) := by decide +kernel
theorem fd_14_75 : flds.lookup (14, 75) = some (12, 30, 0, 1328) := by decide +kernel
theorem fd_14_78 : flds.lookup (14, 78) = some (12, 31, 0, 1329) := by decide +kernel
theorem fd_14_81 : flds.lookup (14, 81) = some (12, 32, 0, 1330) := by decide +kernel
theorem fd_14_84 : flds.lookup (14, 84) = some (12, 33, 0, 1331) := by decide +kernel
theorem fd_14_87 : flds.lookup (14, 87) = some (12, 34, 0, 1332) := by decide +kernel
theorem fd_14_90 : flds.lookup (14, 90) = some (12, 35, 0, 1333) := by decide +kernel
theorem fd_14_93 : flds.lookup (14, 93) = some (12, 39, 0, 1337) := by decide +kernel
theorem fd_14_96 : flds.lookup (14, 96) = some (12, 40, 0, 1338) := by decide +kernel
theorem fd_14_99 : flds.lookup (14, 99) = some (12, 41, 0, 1339) := by decide +kernel
theorem fd_14_102 : flds.lookup (14, 102) = some (12, 42, 0, 1340) := by decide +kernel
theorem fd_14_105 : flds.lookup (14, 105) = some (12, 43, 0, 1341) := by decide +kernel
theorem fd_14_108 : flds.lookup (14, 108) = some (12, 44, 0, 1342) := by decide +kernel
theorem fd_14_111 : flds.lookup (14, 111) = some (12, 45, 0, 1343) := by decide +kernel
theorem fd_14_114 : flds.lookup (14, 114) = some (12, 46, 0, 1344) := by decide +kernel
theorem fd_14_117 : flds.lookup (14, 117) = some (12, 47, 0, 1345) := by decide +kernel
theorem fd_14_120 : flds.lookup (14, 120) = some (12, 48, 0, 1346) := by decide +kernel
theorem fd_14_123 : flds.lookup (14, 123) = some (12, 49, 0, 1347) := by decide +kernel
theorem fd_14_126 : flds.lookup (14, 126) = some (12, 50, 0, 1348) := by decide +kernel
theorem fd_14_129 : flds.lookup (14, 129) = some (12, 51, 0, 1349) := by decide +kernel
theorem fd_14_132 : flds.lookup (14, 132) = some (12, 52, 0, 1350) := by decide +kernel
theorem fd_14_135 : flds.lookup (14, 135) = some (12, 53, 0, 1351) := by decide +kernel
theorem fd_14_138 : flds.lookup (14, 138) = some (12, 54, 0, 1352) := by decide +kernel
theorem fd_14_141 : flds.lookup (14, 141) = some (12, 55, 0, 1353) := by decide +kernel
theorem fd_14_144 : flds.lookup (14, 144) = some (12, 56, 0, 1354) := by decide +kernel
theorem fd_14_148 : flds.lookup (14, 148) = some (12, 57, 0, 1355) := by decide +kernel
theorem fd_14_151 : flds.lookup (14, 151) = some (12, 62, 0, 1360) := by decide +kernel
theorem fd_14_154 : flds.lookup (14, 154) = some (12, 63, 0, 1361) := by decide +kernel
theorem fd_14_157 : flds.lookup (14, 157) = some (12, 64, 0, 1362) := by decide +kernel
theorem fd_14_160 : flds.lookup (14, 160) = some (12, 65, 0, 1363) := by decide +kernel
theorem fd_14_163 : flds.lookup (14, 163) = some (12, 66, 0, 1364) := by decide +kernel
theorem fd_14_166 : flds.lookup (14, 166) = some (12, 67, 0, 1365) := by decide +kernel
theorem fd_14_169 : flds.lookup (14, 169) = some (12, 69, 0, 1367) := by decide +kernel
theorem fd_14_172 : flds.lookup (14, 172) = some (12, 70, 0, 1368) := by decide +kernel
theorem fd_14_175 : flds.lookup (14, 175) = some (12, 71, 0, 1369) := by decide +kernel
theorem fd_14_178 : flds.lookup (14, 178) = some (12, 72, 0, 1370) := by decide +kernel
theorem fd_14_181 : flds.lookup (14, 181) = some (12, 73, 0, 1371) := by decide +kernel
theorem fd_14_184 : flds.lookup (14, 184) = some (12, 74, 0, 1372) := by decide +kernel
theorem fd_14_187 : flds.lookup (14, 187) = some (12, 75, 0, 1373) := by decide +kernel
theorem fd_14_190 : flds.lookup (14, 190) = some (12, 76, 0, 1374) := by decide +kernel
theorem fd_14_193 : flds.lookup (14, 193) = some (12, 79, 0, 1377) := by decide +kernel
theorem fd_0_79 : flds.lookup (0, 79) = some (13, 3, 0, 121) := by decide +kernel
theorem fd_14_208 : flds.lookup (14, 208) = some (12, 1, 0, 1299) := by decide +kernel
theorem fd_2_28 : flds.lookup (2, 28) = some (7, 7, 0, 151) := by decide +kernel
theorem fd_2_86 : flds.lookup (2, 86) = some (7, 8, 0, 153) := by decide +kernel
theorem fd_2_32 : flds.lookup (2, 32) = some (7, 5, 0, 147) := by decide +kernel
theorem fd_2_35 : flds.lookup (2, 35) = some (7, 6, 0, 149) := by decide +kernel
theorem fd_0_73 : flds.lookup (0, 73) = some (13, 2, 0, 120) := by decide +kernel
theorem fd_10_50 : flds.lookup (10, 50) = some (10, 5, 0, 435) := by decide +kernel
theorem fd_6_18 : flds.lookup (6, 18) = some (3, 2, 0, 270) := by decide +kernel
theorem fd_7_18 : flds.lookup (7, 18) = some (2, 4, 0, 301) := by decide +kernel
theorem fd_7_22 : flds.lookup (7, 22) = some (2, 6, 0, 306) := by decide +kernel
theorem fd_8_71 : flds.lookup (8, 71) = some (5, 10, 0, 350) := by decide +kernel
theorem fd_8_74 : flds.lookup (8, 74) = some (5, 11, 0, 353) := by decide +kernel
theorem fd_8_77 : flds.lookup (8, 77) = some (5, 12, 0, 356) := by decide +kernel
theorem fd_8_80 : flds.lookup (8, 80) = some (5, 13, 0, 359) := by decide +kernel
theorem fd_5_29 : flds.lookup (5, 29) = some (4, 1, 0, 244) := by decide +kernel
theorem fd_5_33 : flds.lookup (5, 33) = some (4, 2, 0, 246) := by decide +kernel
theorem fd_4_26 : flds.lookup (4, 26) = some (8, 4, 0, 214) := by decide +kernel
theorem fd_4_23 : flds.lookup (4, 23) = some (8, 5, 0, 215) := by decide +kernel
theorem fd_9_59 : flds.lookup (9, 59) = some (0, 3, 0, 403) := by decide +kernel
theorem fd_9_26 : flds.lookup (9, 26) = some (0, 4, 0, 404) := by decide +kernel
theorem fd_9_35 : flds.lookup (9, 35) = some (0, 5, 0, 406) := by decide +kernel
theorem fd_9_55 : flds.lookup (9, 55) = some (0, 6, 0, 408) := by decide +kernel
theorem fd_7_28 : flds.lookup (7, 28) = some (2, 1, 0, 290) := by decide +kernel
theorem fd_7_32 : flds.lookup (7, 32) = some (2, 2, 0, 294) := by decide +kernel
theorem fd_7_35 : flds.lookup (7, 35) = some (2, 3, 0, 298) := by decide +kernel
theorem fd_10_126 : flds.lookup (10, 126) = some (10, 12, 0, 451) := by decide +kernel
theorem fd_10_97 : flds.lookup (10, 97) = some (10, 8, 0, 443) := by decide +kernel
theorem fd_10_135 : flds.lookup (10, 135) = some (10, 6, 0, 440) := by decide +kernel
theorem fd_10_100 : flds.lookup (10, 100) = some (10, 11, 0, 448) := by decide +kernel
theorem fd_10_103 : flds.lookup (10, 103) = some (10, 9, 0, 444) := by decide +kernel
theorem fd_10_106 : flds.lookup (10, 106) = some (10, 14, 0, 454) := by decide +kernel
theorem fd_10_113 : flds.lookup (10, 113) = some (10, 10, 0, 446) := by decide +kernel
theorem fd_10_65 : flds.lookup (10, 65) = some (7, 5, 1, 148) := by decide +kernel
theorem fd_10_68 : flds.lookup (10, 68) = some (7, 1, 1, 140) := by decide +kernel
theorem fd_10_72 : flds.lookup (10, 72) = some (7, 2, 1, 142) := by decide +kernel
theorem fd_10_75 : flds.lookup (10, 75) = some (7, 3, 1, 144) := by decide +kernel
theorem fd_10_78 : flds.lookup (10, 78) = some (7, 4, 1, 146) := by decide +kernel
theorem fd_10_85 : flds.lookup (10, 85) = some (7, 6, 1, 150) := by decide +kernel
theorem fd_11_15 : flds.lookup (11, 15) = some (6, 1, 0, 493) := by decide +kernel
theorem fd_11_19 : flds.lookup (11, 19) = some (10, 5, 1, 436) := by decide +kernel
theorem fd_11_28 : flds.lookup (11, 28) = some (5, 4, 1, 336) := by decide +kernel
theorem fd_13_69 : flds.lookup (13, 69) = some (7, 7, 1, 152) := by decide +kernel
theorem fd_13_80 : flds.lookup (13, 80) = some (10, 5, 1, 437) := by decide +kernel
theorem fd_14_212 : flds.lookup (14, 212) = some (12, 60, 0, 1358) := by decide +kernel
theorem fd_14_215 : flds.lookup (14, 215) = some (12, 61, 0, 1359) := by decide +kernel
theorem fd_14_268 : flds.lookup (14, 268) = some (12, 17, 0, 1315) := by decide +kernel
theorem fd_14_262 : flds.lookup (14, 262) = some (12, 37, 0, 1335) := by decide +kernel
theorem fd_14_271 : flds.lookup (14, 271) = some (12, 14, 0, 1312) := by decide +kernel
theorem fd_14_243 : flds.lookup (14, 243) = some (12, 15, 0, 1313) := by decide +kernel
theorem fd_14_246 : flds.lookup (14, 246) = some (12, 58, 0, 1356) := by decide +kernel
theorem fd_14_249 : flds.lookup (14, 249) = some (12, 59, 0, 1357) := by decide +kernel
theorem fd_14_253 : flds.lookup (14, 253) = some (12, 16, 0, 1314) := by decide +kernel
theorem fd_14_256 : flds.lookup (14, 256) = some (12, 18, 0, 1316) := by decide +kernel
theorem fd_14_259 : flds.lookup (14, 259) = some (12, 19, 0, 1317) := by decide +kernel
theorem fd_14_196 : flds.lookup (14, 196) = some (12, 2, 0, 1300) := by decide +kernel
theorem fd_13_83 : flds.lookup (13, 83) = some (10, 14, 1, 453) := by decide +kernel
theorem fd_13_88 : flds.lookup (13, 88) = some (10, 0, 1, 426) := by decide +kernel
theorem fd_13_101 : flds.lookup (13, 101) = some (10, 1, 1, 430) := by decide +kernel
theorem fd_13_105 : flds.lookup (13, 105) = some (8, 5, 1, 218) := by decide +kernel
theorem fd_14_275 : flds.lookup (14, 275) = some (12, 13, 0, 1311) := by decide +kernel
theorem fd_10_58 : flds.lookup (10, 58) = some (5, 9, 1, 348) := by decide +kernel
theorem fd_10_61 : flds.lookup (10, 61) = some (5, 0, 1, 328) := by decide +kernel
theorem fd_10_168 : flds.lookup (10, 168) = some (2, 0, 1, 288) := by decide +kernel
theorem fd_10_156 : flds.lookup (10, 156) = some (8, 5, 1, 219) := by decide +kernel
theorem fd_9_30 : flds.lookup (9, 30) = some (9, 2, 1, 191) := by decide +kernel
theorem fd_9_58 : flds.lookup (9, 58) = some (9, 1, 1, 189) := by decide +kernel
theorem fd_10_145 : flds.lookup (10, 145) = some (2, 4, 1, 302) := by decide +kernel
theorem fd_9_38 : flds.lookup (9, 38) = some (9, 0, 1, 187) := by decide +kernel
theorem fd_10_153 : flds.lookup (10, 153) = some (2, 1, 1, 292) := by decide +kernel
theorem fd_10_276 : flds.lookup (10, 276) = some (5, 10, 1, 352) := by decide +kernel
theorem fd_10_279 : flds.lookup (10, 279) = some (5, 11, 1, 355) := by decide +kernel
theorem fd_10_212 : flds.lookup (10, 212) = some (2, 3, 1, 300) := by decide +kernel
theorem fd_10_215 : flds.lookup (10, 215) = some (2, 2, 1, 297) := by decide +kernel
theorem fd_10_150 : flds.lookup (10, 150) = some (2, 5, 1, 304) := by decide +kernel
theorem fd_10_295 : flds.lookup (10, 295) = some (5, 6, 1, 342) := by decide +kernel
theorem fd_10_132 : flds.lookup (10, 132) = some (10, 13, 0, 452) := by decide +kernel
theorem fd_10_165 : flds.lookup (10, 165) = some (0, 1, 1, 400) := by decide +kernel
theorem fd_10_171 : flds.lookup (10, 171) = some (5, 1, 1, 330) := by decide +kernel
theorem fd_10_223 : flds.lookup (10, 223) = some (9, 3, 1, 194) := by decide +kernel
theorem fd_10_233 : flds.lookup (10, 233) = some (5, 12, 1, 358) := by decide +kernel
theorem fd_10_244 : flds.lookup (10, 244) = some (5, 13, 1, 361) := by decide +kernel
theorem fd_8_98 : flds.lookup (8, 98) = some (2, 5, 1, 305) := by decide +kernel
theorem fd_8_101 : flds.lookup (8, 101) = some (2, 6, 1, 307) := by decide +kernel
theorem fd_10_138 : flds.lookup (10, 138) = some (10, 7, 0, 442) := by decide +kernel
theorem fd_14_312 : flds.lookup (14, 312) = some (12, 36, 0, 1334) := by decide +kernel
theorem fd_14_318 : flds.lookup (14, 318) = some (12, 38, 0, 1336) := by decide +kernel
theorem fd_14_291 : flds.lookup (14, 291) = some (12, 68, 0, 1366) := by decide +kernel
theorem fd_13_120 : flds.lookup (13, 120) = some (10, 12, 1, 450) := by decide +kernel
theorem fd_13_130 : flds.lookup (13, 130) = some (10, 11, 1, 449) := by decide +kernel
theorem fd_13_142 : flds.lookup (13, 142) = some (10, 6, 1, 441) := by decide +kernel
theorem fd_13_145 : flds.lookup (13, 145) = some (10, 9, 1, 445) := by decide +kernel
theorem fd_13_148 : flds.lookup (13, 148) = some (10, 10, 1, 447) := by decide +kernel
theorem fd_13_160 : flds.lookup (13, 160) = some (5, 6, 1, 341) := by decide +kernel
theorem fd_13_165 : flds.lookup (13, 165) = some (5, 9, 1, 349) := by decide +kernel
theorem fd_13_166 : flds.lookup (13, 166) = some (5, 7, 1, 344) := by decide +kernel
theorem fd_13_169 : flds.lookup (13, 169) = some (5, 8, 1, 346) := by decide +kernel
theorem fd_13_172 : flds.lookup (13, 172) = some (5, 10, 1, 351) := by decide +kernel
theorem fd_13_175 : flds.lookup (13, 175) = some (5, 11, 1, 354) := by decide +kernel
theorem fd_13_178 : flds.lookup (13, 178) = some (5, 12, 1, 357) := by decide +kernel
theorem fd_13_181 : flds.lookup (13, 181) = some (5, 13, 1, 360) := by decide +kernel
theorem fd_13_188 : flds.lookup (13, 188) = some (2, 0, 1, 289) := by decide +kernel
theorem fd_13_193 : flds.lookup (13, 193) = some (2, 1, 1, 293) := by decide +kernel
theorem fd_13_196 : flds.lookup (13, 196) = some (2, 2, 1, 296) := by decide +kernel
theorem fd_13_199 : flds.lookup (13, 199) = some (2, 3, 1, 299) := by decide +kernel
theorem fd_13_202 : flds.lookup (13, 202) = some (2, 4, 1, 303) := by decide +kernel
theorem fd_13_213 : flds.lookup (13, 213) = some (0, 4, 1, 405) := by decide +kernel
theorem fd_13_218 : flds.lookup (13, 218) = some (0, 5, 1, 407) := by decide +kernel
theorem fd_13_221 : flds.lookup (13, 221) = some (0, 1, 1, 401) := by decide +kernel
theorem fd_13_224 : flds.lookup (13, 224) = some (0, 6, 1, 409) := by decide +kernel
theorem fd_13_227 : flds.lookup (13, 227) = some (9, 2, 1, 192) := by decide +kernel
theorem fd_13_230 : flds.lookup (13, 230) = some (5, 1, 1, 331) := by decide +kernel
theorem fd_13_238 : flds.lookup (13, 238) = some (5, 3, 1, 334) := by decide +kernel
theorem fd_13_241 : flds.lookup (13, 241) = some (10, 4, 1, 434) := by decide +kernel
theorem fd_13_245 : flds.lookup (13, 245) = some (4, 1, 1, 245) := by decide +kernel
theorem fd_13_250 : flds.lookup (13, 250) = some (4, 2, 1, 247) := by decide +kernel
theorem fd_11_62 : flds.lookup (11, 62) = some (5, 5, 1, 339) := by decide +kernel
theorem fd_11_70 : flds.lookup (11, 70) = some (8, 5, 1, 217) := by decide +kernel
theorem fd_11_39 : flds.lookup (11, 39) = some (10, 6, 1, 438) := by decide +kernel
theorem fd_11_45 : flds.lookup (11, 45) = some (10, 1, 1, 428) := by decide +kernel
theorem fd_13_259 : flds.lookup (13, 259) = some (5, 4, 1, 337) := by decide +kernel
theorem fd_12_54 : flds.lookup (12, 54) = some (2, 1, 1, 291) := by decide +kernel
theorem fd_12_63 : flds.lookup (12, 63) = some (10, 6, 1, 439) := by decide +kernel
theorem fd_12_66 : flds.lookup (12, 66) = some (10, 1, 1, 429) := by decide +kernel
theorem fd_12_70 : flds.lookup (12, 70) = some (8, 5, 1, 216) := by decide +kernel
theorem fd_12_78 : flds.lookup (12, 78) = some (2, 2, 1, 295) := by decide +kernel
theorem fd_12_26 : flds.lookup (12, 26) = some (1, 3, 0, 510) := by decide +kernel
theorem fd_14_393 : flds.lookup (14, 393) = some (12, 78, 0, 1376) := by decide +kernel
theorem fd_14_396 : flds.lookup (14, 396) = some (12, 77, 0, 1375) := by decide +kernel
theorem fd_13_265 : flds.lookup (13, 265) = some (1, 3, 1, 511) := by decide +kernel
theorem fd_13_268 : flds.lookup (13, 268) = some (1, 1, 1, 507) := by decide +kernel
theorem fd_13_272 : flds.lookup (13, 272) = some (1, 2, 1, 509) := by decide +kernel
theorem fd_14_402 : flds.lookup (14, 402) = some (12, 80, 0, 1378) := by decide +kernel
theorem si_0_3 : sites.lookup (0, 3) = some (8, 0, 0, [108]) := by decide +kernel
theorem si_1_1 : sites.lookup (1, 1) = some (2, 0, 1, [105, 107, 67, 106]) := by decide +kernel
theorem si_2_3 : sites.lookup (2, 3) = some (8, 0, 0, [137]) := by decide +kernel
theorem si_3_1 : sites.lookup (3, 1) = some (8, 0, 0, [185]) := by decide +kernel
theorem si_4_1 : sites.lookup (4, 1) = some (8, 0, 0, [209]) := by decide +kernel
theorem si_5_1 : sites.lookup (5, 1) = some (8, 0, 0, [242]) := by decide +kernel
theorem si_6_3 : sites.lookup (6, 3) = some (8, 0, 0, [267]) := by decide +kernel
theorem si_7_1 : sites.lookup (7, 1) = some (8, 0, 0, [284]) := by decide +kernel
theorem si_7_9 : sites.lookup (7, 9) = some (2, 4, 1, [286, 208, 74, 207]) := by decide +kernel
theorem si_8_3 : sites.lookup (8, 3) = some (8, 0, 0, [259]) := by decide +kernel
theorem si_8_19 : sites.lookup (8, 19) = some (6, 6, 0, [264, 266, 77, 265]) := by decide +kernel
theorem si_8_35 : sites.lookup (8, 35) = some (2, 4, 1, [279, 208, 74, 207]) := by decide +kernel
theorem si_8_42 : sites.lookup (8, 42) = some (6, 7, 0, [281, 283, 78, 282]) := by decide +kernel
theorem si_8_43 : sites.lookup (8, 43) = some (1, 8, 4, [323, 326, 76, 324, 325]) := by decide +kernel
theorem si_9_1 : sites.lookup (9, 1) = some (8, 0, 0, [395]) := by decide +kernel
theorem si_9_9 : sites.lookup (9, 9) = some (2, 4, 1, [397, 208, 74, 207]) := by decide +kernel
theorem si_10_3 : sites.lookup (10, 3) = some (8, 0, 0, [179]) := by decide +kernel
theorem si_10_11 : sites.lookup (10, 11) = some (6, 3, 0, [182, 184, 73, 183]) := by decide +kernel
theorem si_10_20 : sites.lookup (10, 20) = some (2, 4, 1, [206, 208, 74, 207]) := by decide +kernel
theorem si_10_41 : sites.lookup (10, 41) = some (6, 5, 0, [239, 241, 75, 240]) := by decide +kernel
theorem si_10_46 : sites.lookup (10, 46) = some (2, 9, 1, [256, 258, 76, 257]) := by decide +kernel
theorem si_10_47 : sites.lookup (10, 47) = some (2, 10, 1, [392, 394, 79, 393]) := by decide +kernel
theorem si_11_3 : sites.lookup (11, 3) = some (8, 0, 0, [491]) := by decide +kernel
theorem si_12_3 : sites.lookup (12, 3) = some (8, 0, 0, [504]) := by decide +kernel
theorem si_13_1 : sites.lookup (13, 1) = some (8, 0, 0, [97]) := by decide +kernel
theorem si_13_9 : sites.lookup (13, 9) = some (2, 1, 0, [102, 104, 68, 103]) := by decide +kernel
theorem si_13_21 : sites.lookup (13, 21) = some (2, 2, 1, [134, 136, 71, 135]) := by decide +kernel
theorem si_13_30 : sites.lookup (13, 30) = some (2, 11, 0, [176, 178, 72, 177]) := by decide +kernel
theorem si_13_37 : sites.lookup (13, 37) = some (2, 12, 1, [488, 490, 80, 489]) := by decide +kernel
theorem si_13_46 : sites.lookup (13, 46) = some (2, 13, 1, [501, 503, 81, 502]) := by decide +kernel
theorem si_14_3 : sites.lookup (14, 3) = some (8, 0, 0, [1296]) := by decide +kernel
theorem si_1_343 : sites.lookup (1, 343) = some (4, 16, 0, [549, 551, 67, 550, 1808, 130]) := by decide +kernel
theorem si_16_194 : sites.lookup (16, 194) = some (0, 18, 2, [571, 573, 84, 572]) := by decide +kernel
theorem si_0_114 : sites.lookup (0, 114) = some (0, 19, 3, [568, 570, 83, 569]) := by decide +kernel
theorem si_17_304 : sites.lookup (17, 304) = some (0, 21, 2, [589, 591, 84, 590]) := by decide +kernel
theorem si_17_150 : sites.lookup (17, 150) = some (9, 0, 5, [592]) := by decide +kernel
theorem si_0_104 : sites.lookup (0, 104) = some (3, 20, 1, [564, 567, 67, 566, 1811, 1]) := by decide +kernel
theorem si_0_108 : sites.lookup (0, 108) = some (0, 22, 2, [579, 581, 85, 580]) := by decide +kernel
theorem si_0_100 : sites.lookup (0, 100) = some (3, 23, 1, [560, 563, 67, 562, 1810, 0]) := by decide +kernel
theorem si_0_83 : sites.lookup (0, 83) = some (3, 24, 0, [595, 599, 67, 596, 597, 598]) := by decide +kernel
theorem si_0_191 : sites.lookup (0, 191) = some (0, 25, 1, [600, 602, 87, 601]) := by decide +kernel
theorem si_1_50 : sites.lookup (1, 50) = some (4, 26, 1, [557, 559, 67, 558, 1809, 130]) := by decide +kernel
theorem si_13_52 : sites.lookup (13, 52) = some (1, 17, 0, [545, 548, 68, 546, 547]) := by decide +kernel
theorem si_13_57 : sites.lookup (13, 57) = some (1, 27, 1, [553, 556, 68, 554, 555]) := by decide +kernel
theorem si_14_203 : sites.lookup (14, 203) = some (0, 29, 3, [1547, 1549, 82, 1548]) := by decide +kernel
theorem si_20_1059 : sites.lookup (20, 1059) = some (0, 31, 3, [645, 647, 88, 646]) := by decide +kernel
theorem si_0_138 : sites.lookup (0, 138) = some (0, 21, 2, [668, 591, 84, 590]) := by decide +kernel
theorem si_0_144 : sites.lookup (0, 144) = some (0, 32, 2, [669, 644, 69, 643]) := by decide +kernel
theorem si_1_329 : sites.lookup (1, 329) = some (4, 33, 1, [665, 667, 67, 666, 1813, 130]) := by decide +kernel
theorem si_2_52 : sites.lookup (2, 52) = some (1, 17, 0, [660, 548, 68, 546, 547]) := by decide +kernel
theorem si_2_57 : sites.lookup (2, 57) = some (1, 34, 1, [661, 664, 68, 662, 663]) := by decide +kernel
theorem si_20_335 : sites.lookup (20, 335) = some (7, 37, 0, [699, 702, 69, 700, 701]) := by decide +kernel
theorem si_18_88 : sites.lookup (18, 88) = some (0, 39, 1, [706, 708, 87, 707]) := by decide +kernel
theorem si_18_92 : sites.lookup (18, 92) = some (0, 18, 2, [709, 573, 84, 572]) := by decide +kernel
theorem si_18_38 : sites.lookup (18, 38) = some (0, 21, 2, [710, 591, 84, 590]) := by decide +kernel
theorem si_18_95 : sites.lookup (18, 95) = some (0, 40, 4, [711, 713, 87, 712]) := by decide +kernel
theorem si_20_492 : sites.lookup (20, 492) = some (7, 36, 0, [690, 693, 69, 691, 692]) := by decide +kernel
theorem si_20_505 : sites.lookup (20, 505) = some (7, 38, 0, [695, 698, 69, 696, 697]) := by decide +kernel
theorem si_20_637 : sites.lookup (20, 637) = some (0, 41, 4, [703, 705, 87, 704]) := by decide +kernel
theorem si_20_633 : sites.lookup (20, 633) = some (7, 42, 2, [686, 689, 69, 687, 688]) := by decide +kernel
theorem si_2_38 : sites.lookup (2, 38) = some (1, 35, 0, [656, 659, 71, 658, 2]) := by decide +kernel
theorem si_2_76 : sites.lookup (2, 76) = some (1, 45, 1, [753, 756, 71, 755, 5]) := by decide +kernel
theorem si_2_89 : sites.lookup (2, 89) = some (1, 46, 0, [761, 764, 71, 763, 7]) := by decide +kernel
theorem si_2_46 : sites.lookup (2, 46) = some (1, 49, 0, [773, 776, 71, 775, 10]) := by decide +kernel
theorem si_2_67 : sites.lookup (2, 67) = some (7, 43, 1, [682, 685, 69, 683, 684]) := by decide +kernel
theorem si_2_73 : sites.lookup (2, 73) = some (5, 44, 1, [750, 752, 66, 751]) := by decide +kernel
theorem si_2_80 : sites.lookup (2, 80) = some (1, 47, 0, [757, 760, 71, 759, 6]) := by decide +kernel
theorem si_2_83 : sites.lookup (2, 83) = some (1, 48, 1, [765, 768, 71, 767, 8]) := by decide +kernel
theorem si_2_49 : sites.lookup (2, 49) = some (1, 50, 0, [769, 772, 71, 771, 9]) := by decide +kernel
theorem si_2_61 : sites.lookup (2, 61) = some (1, 51, 1, [677, 680, 71, 679, 4]) := by decide +kernel
theorem si_2_42 : sites.lookup (2, 42) = some (1, 52, 0, [673, 676, 71, 675, 3]) := by decide +kernel
theorem si_1_333 : sites.lookup (1, 333) = some (4, 54, 1, [781, 783, 67, 782, 1814, 130]) := by decide +kernel
theorem si_6_28 : sites.lookup (6, 28) = some (0, 57, 2, [818, 820, 85, 819]) := by decide +kernel
theorem si_8_86 : sites.lookup (8, 86) = some (1, 59, 0, [825, 828, 78, 826, 827]) := by decide +kernel
theorem si_8_68 : sites.lookup (8, 68) = some (1, 58, 0, [814, 817, 77, 815, 816]) := by decide +kernel
theorem si_8_83 : sites.lookup (8, 83) = some (1, 60, 0, [821, 824, 76, 822, 823]) := by decide +kernel
theorem si_5_38 : sites.lookup (5, 38) = some (0, 57, 2, [833, 820, 85, 819]) := by decide +kernel
theorem si_9_65 : sites.lookup (9, 65) = some (1, 63, 0, [842, 845, 74, 843, 844]) := by decide +kernel
theorem si_6_22 : sites.lookup (6, 22) = some (9, 0, 5, [854]) := by decide +kernel
theorem si_7_25 : sites.lookup (7, 25) = some (1, 63, 0, [859, 845, 74, 843, 844]) := by decide +kernel
theorem si_8_87 : sites.lookup (8, 87) = some (1, 65, 1, [850, 853, 77, 851, 852]) := by decide +kernel
theorem si_8_91 : sites.lookup (8, 91) = some (1, 66, 0, [855, 858, 78, 856, 857]) := by decide +kernel
theorem si_10_221 : sites.lookup (10, 221) = some (1, 64, 0, [838, 841, 79, 839, 840]) := by decide +kernel
theorem si_10_222 : sites.lookup (10, 222) = some (1, 67, 0, [846, 849, 76, 847, 848]) := by decide +kernel
theorem si_10_91 : sites.lookup (10, 91) = some (1, 61, 0, [810, 813, 76, 811, 812]) := by decide +kernel
theorem si_10_94 : sites.lookup (10, 94) = some (1, 62, 0, [829, 832, 75, 830, 831]) := by decide +kernel
theorem si_10_110 : sites.lookup (10, 110) = some (1, 68, 0, [834, 837, 72, 836, 11]) := by decide +kernel
theorem si_10_54 : sites.lookup (10, 54) = some (1, 56, 1, [801, 804, 72, 802, 803]) := by decide +kernel
theorem si_10_81 : sites.lookup (10, 81) = some (1, 8, 4, [805, 326, 76, 324, 325]) := by decide +kernel
theorem si_10_88 : sites.lookup (10, 88) = some (1, 69, 0, [806, 809, 72, 807, 808]) := by decide +kernel
theorem si_11_24 : sites.lookup (11, 24) = some (1, 56, 1, [864, 804, 72, 802, 803]) := by decide +kernel
theorem si_11_34 : sites.lookup (11, 34) = some (1, 58, 0, [865, 817, 77, 815, 816]) := by decide +kernel
theorem si_13_61 : sites.lookup (13, 61) = some (1, 53, 0, [652, 655, 71, 653, 654]) := by decide +kernel
theorem si_13_65 : sites.lookup (13, 65) = some (1, 55, 1, [777, 780, 68, 778, 779]) := by decide +kernel
theorem si_13_73 : sites.lookup (13, 73) = some (1, 70, 1, [797, 800, 72, 798, 799]) := by decide +kernel
theorem si_13_77 : sites.lookup (13, 77) = some (1, 71, 0, [860, 863, 80, 861, 862]) := by decide +kernel
theorem si_14_219 : sites.lookup (14, 219) = some (1, 73, 0, [1556, 1559, 82, 1558, 26]) := by decide +kernel
theorem si_14_222 : sites.lookup (14, 222) = some (0, 74, 1, [1564, 1566, 82, 1565]) := by decide +kernel
theorem si_14_226 : sites.lookup (14, 226) = some (1, 75, 1, [1567, 1570, 82, 1569, 28]) := by decide +kernel
theorem si_14_230 : sites.lookup (14, 230) = some (1, 76, 2, [1571, 1574, 82, 1573, 29]) := by decide +kernel
theorem si_14_234 : sites.lookup (14, 234) = some (1, 77, 0, [1575, 1578, 82, 1577, 30]) := by decide +kernel
theorem si_14_265 : sites.lookup (14, 265) = some (1, 79, 0, [1583, 1586, 82, 1585, 32]) := by decide +kernel
theorem si_14_237 : sites.lookup (14, 237) = some (1, 78, 1, [1560, 1563, 82, 1562, 27]) := by decide +kernel
theorem si_14_240 : sites.lookup (14, 240) = some (1, 80, 0, [1579, 1582, 82, 1581, 31]) := by decide +kernel
theorem si_13_92 : sites.lookup (13, 92) = some (1, 82, 0, [871, 874, 73, 872, 873]) := by decide +kernel
theorem si_13_97 : sites.lookup (13, 97) = some (1, 83, 4, [875, 878, 73, 876, 877]) := by decide +kernel
theorem si_13_110 : sites.lookup (13, 110) = some (1, 86, 3, [883, 886, 74, 884, 885]) := by decide +kernel
theorem si_10_129 : sites.lookup (10, 129) = some (1, 90, 1, [903, 906, 72, 904, 905]) := by decide +kernel
theorem si_10_141 : sites.lookup (10, 141) = some (1, 91, 2, [907, 910, 72, 908, 909]) := by decide +kernel
theorem si_10_157 : sites.lookup (10, 157) = some (1, 89, 0, [895, 898, 79, 896, 897]) := by decide +kernel
theorem si_10_161 : sites.lookup (10, 161) = some (1, 92, 0, [899, 902, 72, 900, 901]) := by decide +kernel
theorem si_9_52 : sites.lookup (9, 52) = some (1, 95, 1, [927, 930, 79, 929, 13]) := by decide +kernel
theorem si_9_41 : sites.lookup (9, 41) = some (1, 94, 0, [919, 922, 79, 920, 921]) := by decide +kernel
theorem si_9_45 : sites.lookup (9, 45) = some (1, 96, 0, [923, 926, 79, 925, 12]) := by decide +kernel
theorem si_10_190 : sites.lookup (10, 190) = some (1, 98, 0, [943, 946, 76, 944, 945]) := by decide +kernel
theorem si_10_193 : sites.lookup (10, 193) = some (1, 99, 1, [947, 950, 74, 948, 949]) := by decide +kernel
theorem si_10_196 : sites.lookup (10, 196) = some (1, 100, 2, [951, 954, 76, 952, 953]) := by decide +kernel
theorem si_10_200 : sites.lookup (10, 200) = some (0, 101, 2, [955, 957, 84, 956]) := by decide +kernel
theorem si_9_48 : sites.lookup (9, 48) = some (1, 86, 3, [978, 886, 74, 884, 885]) := by decide +kernel
theorem si_10_247 : sites.lookup (10, 247) = some (1, 102, 2, [939, 942, 72, 940, 941]) := by decide +kernel
theorem si_10_205 : sites.lookup (10, 205) = some (1, 103, 3, [958, 961, 72, 959, 960]) := by decide +kernel
theorem si_10_251 : sites.lookup (10, 251) = some (1, 104, 0, [962, 965, 79, 963, 964]) := by decide +kernel
theorem si_10_254 : sites.lookup (10, 254) = some (1, 105, 1, [966, 969, 74, 967, 968]) := by decide +kernel
theorem si_10_257 : sites.lookup (10, 257) = some (1, 106, 1, [970, 973, 74, 971, 972]) := by decide +kernel
theorem si_10_260 : sites.lookup (10, 260) = some (1, 107, 3, [974, 977, 79, 975, 976]) := by decide +kernel
theorem si_10_264 : sites.lookup (10, 264) = some (1, 108, 0, [979, 982, 74, 980, 981]) := by decide +kernel
theorem si_10_209 : sites.lookup (10, 209) = some (1, 110, 0, [991, 994, 79, 992, 993]) := by decide +kernel
theorem si_10_267 : sites.lookup (10, 267) = some (1, 111, 2, [987, 990, 72, 988, 989]) := by decide +kernel
theorem si_10_270 : sites.lookup (10, 270) = some (1, 112, 0, [995, 998, 79, 996, 997]) := by decide +kernel
theorem si_10_273 : sites.lookup (10, 273) = some (1, 86, 3, [1003, 886, 74, 884, 885]) := by decide +kernel
theorem si_10_218 : sites.lookup (10, 218) = some (1, 115, 0, [1012, 1015, 79, 1013, 1014]) := by decide +kernel
theorem si_9_62 : sites.lookup (9, 62) = some (1, 108, 0, [1024, 982, 74, 980, 981]) := by decide +kernel
theorem si_8_64 : sites.lookup (8, 64) = some (1, 100, 2, [1033, 954, 76, 952, 953]) := by decide +kernel
theorem si_8_94 : sites.lookup (8, 94) = some (1, 119, 2, [1034, 1037, 77, 1035, 1036]) := by decide +kernel
theorem si_10_305 : sites.lookup (10, 305) = some (1, 120, 1, [1029, 1032, 76, 1030, 1031]) := by decide +kernel
theorem si_5_14 : sites.lookup (5, 14) = some (0, 21, 2, [1043, 591, 84, 590]) := by decide +kernel
theorem si_5_20 : sites.lookup (5, 20) = some (0, 18, 2, [1044, 573, 84, 572]) := by decide +kernel
theorem si_5_23 : sites.lookup (5, 23) = some (0, 122, 2, [1045, 1047, 85, 1046]) := by decide +kernel
theorem si_8_120 : sites.lookup (8, 120) = some (1, 125, 1, [1067, 1070, 77, 1068, 1069]) := by decide +kernel
theorem si_8_127 : sites.lookup (8, 127) = some (1, 126, 1, [1071, 1074, 77, 1072, 1073]) := by decide +kernel
theorem si_8_104 : sites.lookup (8, 104) = some (1, 86, 3, [1057, 886, 74, 884, 885]) := by decide +kernel
theorem si_8_130 : sites.lookup (8, 130) = some (1, 127, 1, [1075, 1078, 77, 1076, 1077]) := by decide +kernel
theorem si_8_124 : sites.lookup (8, 124) = some (1, 128, 3, [1079, 1082, 77, 1080, 1081]) := by decide +kernel
theorem si_8_108 : sites.lookup (8, 108) = some (1, 124, 1, [1058, 1061, 76, 1060, 20]) := by decide +kernel
theorem si_8_111 : sites.lookup (8, 111) = some (0, 101, 2, [1062, 957, 84, 956]) := by decide +kernel
theorem si_8_116 : sites.lookup (8, 116) = some (1, 129, 5, [1063, 1066, 76, 1065, 21]) := by decide +kernel
theorem si_8_60 : sites.lookup (8, 60) = some (1, 130, 1, [1083, 1086, 77, 1084, 1085]) := by decide +kernel
theorem si_10_282 : sites.lookup (10, 282) = some (1, 116, 2, [1008, 1011, 72, 1009, 1010]) := by decide +kernel
theorem si_10_285 : sites.lookup (10, 285) = some (1, 117, 0, [1016, 1019, 79, 1017, 1018]) := by decide +kernel
theorem si_10_288 : sites.lookup (10, 288) = some (1, 118, 0, [1020, 1023, 79, 1021, 1022]) := by decide +kernel
theorem si_10_291 : sites.lookup (10, 291) = some (1, 121, 3, [1025, 1028, 72, 1027, 19]) := by decide +kernel
theorem si_10_298 : sites.lookup (10, 298) = some (1, 123, 1, [1038, 1041, 75, 1039, 1040]) := by decide +kernel
theorem si_10_301 : sites.lookup (10, 301) = some (1, 131, 5, [1053, 1056, 76, 1054, 1055]) := by decide +kernel
theorem si_10_226 : sites.lookup (10, 226) = some (1, 109, 3, [935, 938, 72, 937, 15]) := by decide +kernel
theorem si_10_230 : sites.lookup (10, 230) = some (1, 113, 3, [983, 986, 72, 985, 16]) := by decide +kernel
theorem si_10_236 : sites.lookup (10, 236) = some (1, 114, 2, [999, 1002, 72, 1001, 17]) := by decide +kernel
theorem si_10_240 : sites.lookup (10, 240) = some (1, 132, 4, [1004, 1007, 72, 1006, 18]) := by decide +kernel
theorem si_10_308 : sites.lookup (10, 308) = some (1, 134, 0, [1091, 1094, 76, 1092, 1093]) := by decide +kernel
theorem si_10_180 : sites.lookup (10, 180) = some (1, 97, 0, [915, 918, 79, 916, 917]) := by decide +kernel
theorem si_10_183 : sites.lookup (10, 183) = some (1, 133, 2, [931, 934, 72, 933, 14]) := by decide +kernel
theorem si_10_187 : sites.lookup (10, 187) = some (1, 135, 0, [1087, 1090, 72, 1089, 22]) := by decide +kernel
theorem si_13_114 : sites.lookup (13, 114) = some (1, 93, 0, [891, 894, 72, 892, 893]) := by decide +kernel
theorem si_13_117 : sites.lookup (13, 117) = some (1, 136, 0, [911, 914, 72, 912, 913]) := by decide +kernel
theorem si_14_281 : sites.lookup (14, 281) = some (1, 142, 1, [1641, 1644, 82, 1643, 40]) := by decide +kernel
theorem si_14_285 : sites.lookup (14, 285) = some (1, 143, 2, [1645, 1648, 82, 1647, 41]) := by decide +kernel
theorem si_14_288 : sites.lookup (14, 288) = some (0, 141, 2, [1634, 1636, 82, 1635]) := by decide +kernel
theorem si_14_278 : sites.lookup (14, 278) = some (1, 139, 1, [1618, 1621, 82, 1620, 35]) := by decide +kernel
theorem si_14_324 : sites.lookup (14, 324) = some (0, 145, 3, [1649, 1651, 82, 1650]) := by decide +kernel
theorem si_14_341 : sites.lookup (14, 341) = some (1, 148, 1, [1664, 1667, 82, 1666, 45]) := by decide +kernel
theorem si_14_344 : sites.lookup (14, 344) = some (1, 144, 3, [1637, 1640, 82, 1639, 39]) := by decide +kernel
theorem si_14_347 : sites.lookup (14, 347) = some (1, 146, 1, [1652, 1655, 82, 1654, 42]) := by decide +kernel
theorem si_14_350 : sites.lookup (14, 350) = some (1, 147, 4, [1656, 1659, 82, 1658, 43]) := by decide +kernel
theorem si_14_354 : sites.lookup (14, 354) = some (1, 149, 2, [1660, 1663, 82, 1662, 44]) := by decide +kernel
theorem si_14_357 : sites.lookup (14, 357) = some (1, 150, 1, [1668, 1671, 82, 1670, 46]) := by decide +kernel
theorem si_14_315 : sites.lookup (14, 315) = some (1, 155, 2, [1692, 1695, 82, 1694, 52]) := by decide +kernel
theorem si_14_199 : sites.lookup (14, 199) = some (1, 140, 0, [1622, 1625, 82, 1624, 36]) := by decide +kernel
theorem si_14_321 : sites.lookup (14, 321) = some (1, 156, 0, [1696, 1699, 82, 1698, 53]) := by decide +kernel
theorem si_14_294 : sites.lookup (14, 294) = some (1, 158, 2, [1708, 1711, 82, 1710, 56]) := by decide +kernel
theorem si_14_298 : sites.lookup (14, 298) = some (0, 159, 1, [1712, 1714, 82, 1713]) := by decide +kernel
theorem si_14_301 : sites.lookup (14, 301) = some (1, 160, 6, [1704, 1707, 82, 1706, 55]) := by decide +kernel
theorem si_14_305 : sites.lookup (14, 305) = some (1, 152, 5, [1676, 1679, 82, 1678, 48]) := by decide +kernel
theorem si_14_328 : sites.lookup (14, 328) = some (1, 153, 2, [1680, 1683, 82, 1682, 49]) := by decide +kernel
theorem si_14_331 : sites.lookup (14, 331) = some (1, 154, 1, [1684, 1687, 82, 1686, 50]) := by decide +kernel
theorem si_14_334 : sites.lookup (14, 334) = some (1, 157, 3, [1688, 1691, 82, 1690, 51]) := by decide +kernel
theorem si_14_338 : sites.lookup (14, 338) = some (1, 161, 5, [1700, 1703, 82, 1702, 54]) := by decide +kernel
theorem si_14_360 : sites.lookup (14, 360) = some (1, 151, 2, [1630, 1633, 82, 1632, 38]) := by decide +kernel
theorem si_14_364 : sites.lookup (14, 364) = some (1, 162, 2, [1672, 1675, 82, 1674, 47]) := by decide +kernel
theorem si_14_367 : sites.lookup (14, 367) = some (1, 163, 2, [1626, 1629, 82, 1628, 37]) := by decide +kernel
theorem si_14_370 : sites.lookup (14, 370) = some (1, 138, 0, [1610, 1613, 82, 1612, 33]) := by decide +kernel
theorem si_14_374 : sites.lookup (14, 374) = some (1, 164, 0, [1614, 1617, 82, 1616, 34]) := by decide +kernel
theorem si_13_124 : sites.lookup (13, 124) = some (1, 168, 0, [1104, 1107, 72, 1105, 1106]) := by decide +kernel
theorem si_13_127 : sites.lookup (13, 127) = some (1, 171, 0, [1112, 1115, 72, 1113, 1114]) := by decide +kernel
theorem si_10_116 : sites.lookup (10, 116) = some (1, 171, 0, [1126, 1115, 72, 1113, 1114]) := by decide +kernel
theorem si_10_119 : sites.lookup (10, 119) = some (1, 174, 1, [1127, 1130, 76, 1128, 1129]) := by decide +kernel
theorem si_10_123 : sites.lookup (10, 123) = some (1, 60, 0, [1131, 824, 76, 822, 823]) := by decide +kernel
theorem si_13_133 : sites.lookup (13, 133) = some (1, 56, 1, [1120, 804, 72, 802, 803]) := by decide +kernel
theorem si_13_138 : sites.lookup (13, 138) = some (1, 175, 2, [1122, 1125, 72, 1123, 1124]) := by decide +kernel
theorem si_14_377 : sites.lookup (14, 377) = some (1, 177, 1, [1732, 1735, 82, 1734, 57]) := by decide +kernel
theorem si_10_175 : sites.lookup (10, 175) = some (1, 126, 1, [1145, 1074, 77, 1072, 1073]) := by decide +kernel
theorem si_13_151 : sites.lookup (13, 151) = some (1, 179, 0, [1136, 1139, 72, 1137, 1138]) := by decide +kernel
theorem si_13_154 : sites.lookup (13, 154) = some (1, 92, 0, [1140, 902, 72, 900, 901]) := by decide +kernel
theorem si_13_157 : sites.lookup (13, 157) = some (1, 180, 0, [1141, 1144, 72, 1142, 1143]) := by decide +kernel
theorem si_14_380 : sites.lookup (14, 380) = some (1, 182, 1, [1740, 1743, 82, 1742, 58]) := by decide +kernel
theorem si_13_184 : sites.lookup (13, 184) = some (1, 91, 2, [1154, 910, 72, 908, 909]) := by decide +kernel
theorem si_13_205 : sites.lookup (13, 205) = some (1, 186, 1, [1155, 1158, 76, 1156, 1157]) := by decide +kernel
theorem si_14_383 : sites.lookup (14, 383) = some (1, 188, 2, [1752, 1755, 82, 1754, 59]) := by decide +kernel
theorem si_13_209 : sites.lookup (13, 209) = some (1, 103, 3, [1163, 961, 72, 959, 960]) := by decide +kernel
theorem si_13_295 : sites.lookup (13, 295) = some (1, 130, 1, [1171, 1086, 77, 1084, 1085]) := by decide +kernel
theorem si_13_301 : sites.lookup (13, 301) = some (1, 125, 1, [1172, 1070, 77, 1068, 1069]) := by decide +kernel
theorem si_13_304 : sites.lookup (13, 304) = some (1, 126, 1, [1173, 1074, 77, 1072, 1073]) := by decide +kernel
theorem si_13_234 : sites.lookup (13, 234) = some (0, 192, 3, [1168, 1170, 66, 1169]) := by decide +kernel
theorem si_14_386 : sites.lookup (14, 386) = some (1, 194, 6, [1764, 1767, 82, 1766, 60]) := by decide +kernel
theorem si_13_253 : sites.lookup (13, 253) = some (1, 198, 1, [1182, 1185, 75, 1183, 1184]) := by decide +kernel
theorem si_11_65 : sites.lookup (11, 65) = some (1, 63, 0, [1201, 845, 74, 843, 844]) := by decide +kernel
theorem si_11_66 : sites.lookup (11, 66) = some (1, 131, 5, [1202, 1056, 76, 1054, 1055]) := by decide +kernel
theorem si_11_49 : sites.lookup (11, 49) = some (1, 99, 1, [1196, 950, 74, 948, 949]) := by decide +kernel
theorem si_11_55 : sites.lookup (11, 55) = some (1, 105, 1, [1197, 969, 74, 967, 968]) := by decide +kernel
theorem si_11_58 : sites.lookup (11, 58) = some (0, 201, 4, [1198, 1200, 80, 1199]) := by decide +kernel
theorem si_11_42 : sites.lookup (11, 42) = some (1, 71, 0, [1195, 863, 80, 861, 862]) := by decide +kernel
theorem si_13_256 : sites.lookup (13, 256) = some (1, 202, 0, [1191, 1194, 80, 1192, 1193]) := by decide +kernel
theorem si_14_390 : sites.lookup (14, 390) = some (1, 204, 0, [1776, 1779, 82, 1778, 61]) := by decide +kernel
theorem si_12_34 : sites.lookup (12, 34) = some (1, 91, 2, [1215, 910, 72, 908, 909]) := by decide +kernel
theorem si_12_40 : sites.lookup (12, 40) = some (1, 102, 2, [1216, 942, 72, 940, 941]) := by decide +kernel
theorem si_12_44 : sites.lookup (12, 44) = some (1, 103, 3, [1217, 961, 72, 959, 960]) := by decide +kernel
theorem si_12_48 : sites.lookup (12, 48) = some (1, 104, 0, [1218, 965, 79, 963, 964]) := by decide +kernel
theorem si_12_60 : sites.lookup (12, 60) = some (1, 111, 2, [1219, 990, 72, 988, 989]) := by decide +kernel
theorem si_12_75 : sites.lookup (12, 75) = some (1, 116, 2, [1220, 1011, 72, 1009, 1010]) := by decide +kernel
theorem si_12_81 : sites.lookup (12, 81) = some (0, 207, 1, [1225, 1227, 81, 1226]) := by decide +kernel
theorem si_12_22 : sites.lookup (12, 22) = some (1, 206, 2, [1211, 1214, 81, 1213, 23]) := by decide +kernel
theorem si_12_30 : sites.lookup (12, 30) = some (1, 208, 3, [1221, 1224, 81, 1223, 24]) := by decide +kernel
theorem si_13_262 : sites.lookup (13, 262) = some (1, 209, 2, [1207, 1210, 81, 1208, 1209]) := by decide +kernel
theorem si_14_399 : sites.lookup (14, 399) = some (1, 211, 2, [1784, 1787, 82, 1786, 62]) := by decide +kernel
theorem si_18_9 : sites.lookup (18, 9) = some (0, 32, 2, [1249, 644, 69, 643]) := by decide +kernel
theorem si_20_495 : sites.lookup (20, 495) = some (0, 215, 2, [1246, 1248, 87, 1247]) := by decide +kernel
theorem si_0_245 : sites.lookup (0, 245) = some (0, 217, 1, [1261, 1263, 91, 1262]) := by decide +kernel
theorem si_0_248 : sites.lookup (0, 248) = some (0, 218, 3, [1264, 1266, 91, 1265]) := by decide +kernel
theorem si_1_53 : sites.lookup (1, 53) = some (4, 219, 1, [1258, 1260, 67, 1259, 1815, 130]) := by decide +kernel
theorem si_13_309 : sites.lookup (13, 309) = some (7, 38, 0, [1241, 698, 69, 696, 697]) := by decide +kernel
theorem si_13_312 : sites.lookup (13, 312) = some (7, 216, 1, [1242, 1245, 69, 1243, 1244]) := by decide +kernel
theorem si_13_313 : sites.lookup (13, 313) = some (0, 44, 1, [1253, 752, 66, 751]) := by decide +kernel
theorem si_13_282 : sites.lookup (13, 282) = some (1, 220, 1, [1254, 1257, 68, 1255, 1256]) := by decide +kernel
theorem si_13_275 : sites.lookup (13, 275) = some (1, 221, 1, [1236, 1239, 66, 1238, 25]) := by decide +kernel
theorem si_13_279 : sites.lookup (13, 279) = some (1, 90, 1, [1279, 906, 72, 904, 905]) := by decide +kernel
theorem si_14_405 : sites.lookup (14, 405) = some (1, 223, 1, [1796, 1799, 82, 1798, 63]) := by decide +kernel
theorem si_14_408 : sites.lookup (14, 408) = some (1, 224, 1, [1800, 1803, 82, 1802, 64]) := by decide +kernel
theorem si_13_285 : sites.lookup (13, 285) = some (1, 34, 1, [1284, 664, 68, 662, 663]) := by decide +kernel
theorem si_13_289 : sites.lookup (13, 289) = some (1, 63, 0, [1289, 845, 74, 843, 844]) := by decide +kernel
theorem si_13_292 : sites.lookup (13, 292) = some (1, 69, 0, [1290, 809, 72, 807, 808]) := by decide +kernel
theorem si_22_9 : sites.lookup (22, 9) = some (2, 14, 0, [94, 96, 66, 95]) := by decide +kernel
theorem si_22_12 : sites.lookup (22, 12) = some (2, 15, 0, [1293, 1295, 82, 1294]) := by decide +kernel
theorem si_22_13 : sites.lookup (22, 13) = some (1, 28, 2, [540, 543, 66, 541, 542]) := by decide +kernel
theorem si_22_17 : sites.lookup (22, 17) = some (1, 30, 2, [1543, 1546, 82, 1544, 1545]) := by decide +kernel
theorem si_22_18 : sites.lookup (22, 18) = some (1, 72, 0, [648, 651, 66, 649, 650]) := by decide +kernel
theorem si_22_22 : sites.lookup (22, 22) = some (1, 81, 0, [1552, 1555, 82, 1553, 1554]) := by decide +kernel
theorem si_22_23 : sites.lookup (22, 23) = some (1, 84, 4, [866, 869, 66, 867, 868]) := by decide +kernel
theorem si_22_27 : sites.lookup (22, 27) = some (1, 85, 4, [1587, 1590, 82, 1588, 1589]) := by decide +kernel
theorem si_22_28 : sites.lookup (22, 28) = some (1, 87, 2, [879, 882, 66, 880, 881]) := by decide +kernel
theorem si_22_31 : sites.lookup (22, 31) = some (1, 88, 2, [1592, 1595, 82, 1593, 1594]) := by decide +kernel
theorem si_22_32 : sites.lookup (22, 32) = some (1, 137, 1, [887, 890, 66, 888, 889]) := by decide +kernel
theorem si_22_36 : sites.lookup (22, 36) = some (1, 165, 1, [1606, 1609, 82, 1607, 1608]) := by decide +kernel
theorem si_22_37 : sites.lookup (22, 37) = some (1, 166, 0, [1095, 1098, 66, 1096, 1097]) := by decide +kernel
theorem si_22_40 : sites.lookup (22, 40) = some (1, 167, 0, [1715, 1718, 82, 1716, 1717]) := by decide +kernel
theorem si_22_41 : sites.lookup (22, 41) = some (1, 169, 0, [1099, 1102, 66, 1100, 1101]) := by decide +kernel
theorem si_22_44 : sites.lookup (22, 44) = some (1, 170, 0, [1719, 1722, 82, 1720, 1721]) := by decide +kernel
theorem si_22_45 : sites.lookup (22, 45) = some (1, 172, 0, [1108, 1111, 66, 1109, 1110]) := by decide +kernel
theorem si_22_48 : sites.lookup (22, 48) = some (1, 173, 0, [1724, 1727, 82, 1725, 1726]) := by decide +kernel
theorem si_22_49 : sites.lookup (22, 49) = some (1, 176, 2, [1116, 1119, 66, 1117, 1118]) := by decide +kernel
theorem si_22_52 : sites.lookup (22, 52) = some (1, 178, 2, [1728, 1731, 82, 1729, 1730]) := by decide +kernel
theorem si_22_53 : sites.lookup (22, 53) = some (1, 181, 1, [1132, 1135, 66, 1133, 1134]) := by decide +kernel
theorem si_22_56 : sites.lookup (22, 56) = some (1, 183, 1, [1736, 1739, 82, 1737, 1738]) := by decide +kernel
theorem si_22_57 : sites.lookup (22, 57) = some (1, 184, 2, [1146, 1149, 66, 1147, 1148]) := by decide +kernel
theorem si_22_60 : sites.lookup (22, 60) = some (1, 185, 2, [1744, 1747, 82, 1745, 1746]) := by decide +kernel
theorem si_22_61 : sites.lookup (22, 61) = some (1, 187, 3, [1150, 1153, 66, 1151, 1152]) := by decide +kernel
theorem si_22_65 : sites.lookup (22, 65) = some (1, 189, 3, [1748, 1751, 82, 1749, 1750]) := by decide +kernel
theorem si_22_66 : sites.lookup (22, 66) = some (1, 190, 4, [1159, 1162, 66, 1160, 1161]) := by decide +kernel
theorem si_22_69 : sites.lookup (22, 69) = some (1, 191, 4, [1756, 1759, 82, 1757, 1758]) := by decide +kernel
theorem si_22_70 : sites.lookup (22, 70) = some (1, 193, 3, [1164, 1167, 66, 1165, 1166]) := by decide +kernel
theorem si_22_73 : sites.lookup (22, 73) = some (1, 195, 3, [1760, 1763, 82, 1761, 1762]) := by decide +kernel
theorem si_22_74 : sites.lookup (22, 74) = some (1, 196, 3, [1174, 1177, 66, 1175, 1176]) := by decide +kernel
theorem si_22_77 : sites.lookup (22, 77) = some (1, 197, 3, [1768, 1771, 82, 1769, 1770]) := by decide +kernel
theorem si_22_78 : sites.lookup (22, 78) = some (1, 199, 1, [1178, 1181, 66, 1179, 1180]) := by decide +kernel
theorem si_22_81 : sites.lookup (22, 81) = some (1, 200, 1, [1600, 1603, 82, 1601, 1602]) := by decide +kernel
theorem si_22_82 : sites.lookup (22, 82) = some (1, 203, 2, [1187, 1190, 66, 1188, 1189]) := by decide +kernel
theorem si_22_85 : sites.lookup (22, 85) = some (1, 205, 2, [1772, 1775, 82, 1773, 1774]) := by decide +kernel
theorem si_22_86 : sites.lookup (22, 86) = some (1, 210, 2, [1203, 1206, 66, 1204, 1205]) := by decide +kernel
theorem si_22_89 : sites.lookup (22, 89) = some (1, 212, 2, [1780, 1783, 82, 1781, 1782]) := by decide +kernel
theorem si_22_90 : sites.lookup (22, 90) = some (1, 213, 2, [1228, 1231, 66, 1229, 1230]) := by decide +kernel
theorem si_22_93 : sites.lookup (22, 93) = some (1, 214, 2, [1788, 1791, 82, 1789, 1790]) := by decide +kernel
theorem si_22_94 : sites.lookup (22, 94) = some (1, 222, 0, [1232, 1235, 66, 1233, 1234]) := by decide +kernel
theorem si_22_97 : sites.lookup (22, 97) = some (1, 225, 0, [1792, 1795, 82, 1793, 1794]) := by decide +kernel
theorem si_22_98 : sites.lookup (22, 98) = some (1, 226, 1, [1280, 1283, 66, 1281, 1282]) := by decide +kernel
theorem si_22_101 : sites.lookup (22, 101) = some (1, 227, 1, [1804, 1807, 82, 1805, 1806]) := by decide +kernel
theorem si_22_102 : sites.lookup (22, 102) = some (1, 228, 0, [1285, 1288, 66, 1286, 1287]) := by decide +kernel
theorem si_22_105 : sites.lookup (22, 105) = some (1, 229, 0, [1596, 1599, 82, 1597, 1598]) := by decide +kernel
theorem nw_7_7 : news.lookup (7, 7) = some (8, 285, 205, 74) := by decide +kernel
theorem nw_8_17 : news.lookup (8, 17) = some (3, 262, 263, 77) := by decide +kernel
theorem nw_8_33 : news.lookup (8, 33) = some (8, 278, 205, 74) := by decide +kernel
theorem nw_8_9 : news.lookup (8, 9) = some (2, 260, 280, 78) := by decide +kernel
theorem nw_9_7 : news.lookup (9, 7) = some (8, 396, 205, 74) := by decide +kernel
theorem nw_10_9 : news.lookup (10, 9) = some (9, 180, 181, 73) := by decide +kernel
theorem nw_10_18 : news.lookup (10, 18) = some (8, 204, 205, 74) := by decide +kernel
theorem nw_10_39 : news.lookup (10, 39) = some (4, 237, 238, 75) := by decide +kernel
theorem nw_10_27 : news.lookup (10, 27) = some (5, 233, 255, 76) := by decide +kernel
theorem nw_10_33 : news.lookup (10, 33) = some (0, 235, 391, 79) := by decide +kernel
theorem nw_13_7 : news.lookup (13, 7) = some (13, 100, 101, 68) := by decide +kernel
theorem nw_13_19 : news.lookup (13, 19) = some (7, 132, 133, 71) := by decide +kernel
theorem nw_13_28 : news.lookup (13, 28) = some (10, 174, 175, 72) := by decide +kernel
theorem nw_13_35 : news.lookup (13, 35) = some (6, 486, 487, 80) := by decide +kernel
theorem nw_13_44 : news.lookup (13, 44) = some (1, 499, 500, 81) := by decide +kernel
theorem nw_22_7 : news.lookup (22, 7) = some (11, 92, 93, 66) := by decide +kernel
theorem nw_22_10 : news.lookup (22, 10) = some (12, 1291, 1292, 82) := by decide +kernel
theorem an_8_9 : anews.lookup (8, 9) = some (104, 260, 261) := by decide +kernel
theorem an_10_27 : anews.lookup (10, 27) = some (105, 233, 234) := by decide +kernel
theorem an_10_33 : anews.lookup (10, 33) = some (103, 235, 236) := by decide +kernel
