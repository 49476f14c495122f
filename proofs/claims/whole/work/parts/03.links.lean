abbrev MT : Type := MethodName × ByteArray × Nat × Option FieldType × Nat × List (Nat × Instr × Nat)
def mt_0 : MT := (⟨"java/lang/AbstractStringBuilder", "<init>", "(I)V"⟩, prog_15_method_2_code, 2, none, 0, il_0)
def mt_1 : MT := (⟨"java/lang/StringBuilder", "<init>", "()V"⟩, prog_22_method_1_code, 1, none, 1, il_1)
def mt_2 : MT := (⟨"PipelineSimulator$Reader", "<init>", "(Ljava/lang/StringBuilder;)V"⟩, prog_9_method_1_code, 2, none, 2, il_2)
def mt_3 : MT := (⟨"PipelineSimulator$Settings", "<init>", "()V"⟩, prog_11_method_1_code, 1, none, 3, il_3)
def mt_4 : MT := (⟨"PipelineSimulator$Records", "<init>", "(I)V"⟩, prog_10_method_1_code, 3, none, 4, il_4)
def mt_5 : MT := (⟨"PipelineSimulator$Latencies", "<init>", "()V"⟩, prog_6_method_1_code, 1, none, 5, il_5)
def mt_6 : MT := (⟨"PipelineSimulator$Keyed", "<init>", "()V"⟩, prog_5_method_1_code, 1, none, 6, il_6)
def mt_7 : MT := (⟨"PipelineSimulator$Instance", "<init>", "()V"⟩, prog_4_method_1_code, 1, none, 7, il_7)
def mt_8 : MT := (⟨"PipelineSimulator$Operator", "become", "(IIII)V"⟩, prog_7_method_2_code, 5, none, 8, il_8)
def mt_9 : MT := (⟨"PipelineSimulator$Operator", "<init>", "(I)V"⟩, prog_7_method_1_code, 3, none, 8, il_9)
def mt_10 : MT := (⟨"PipelineSimulator$Channel", "<init>", "(LPipelineSimulator$Settings;)V"⟩, prog_2_method_1_code, 2, none, 9, il_10)
def mt_11 : MT := (⟨"PipelineSimulator$Simulation", "<init>", "()V"⟩, prog_12_method_1_code, 2, none, 10, il_11)
def mt_12 : MT := (⟨"PipelineSimulator$Plain", "<init>", "(LPipelineSimulator$Simulation;)V"⟩, prog_8_method_1_code, 2, none, 11, il_12)
def mt_13 : MT := (⟨"PipelineSimulator$Explanation", "<init>", "(LPipelineSimulator$Simulation;)V"⟩, prog_3_method_1_code, 2, none, 12, il_13)
def mt_14 : MT := (⟨"PipelineSimulator", "<init>", "()V"⟩, prog_1_method_1_code, 1, none, 13, il_14)
def mt_15 : MT := (⟨"PipelineSimulatorModel", "<init>", "()V"⟩, prog_14_method_1_code, 1, none, 14, il_15)
def mt_16 : MT := (⟨"java/lang/AbstractStringBuilder", "length", "()I"⟩, prog_15_method_6_code, 1, (some .int), 0, il_16)
def mt_17 : MT := (⟨"java/lang/StringBuilder", "length", "()I"⟩, prog_22_method_93_code, 1, (some .int), 1, il_17)
def mt_18 : MT := (⟨"java/lang/Math", "max", "(II)I"⟩, prog_19_method_65_code, 2, (some .int), 15, il_18)
def mt_19 : MT := (⟨"jdk/internal/util/ArraysSupport", "newLength", "(III)I"⟩, prog_27_method_27_code, 4, (some .int), 16, il_19)
def mt_20 : MT := (⟨"java/lang/AbstractStringBuilder", "newCapacity", "(I)I"⟩, prog_15_method_10_code, 6, (some .int), 0, il_20)
def mt_21 : MT := (⟨"java/lang/Math", "min", "(II)I"⟩, prog_19_method_69_code, 2, (some .int), 15, il_21)
def mt_22 : MT := (⟨"java/util/Arrays", "copyOf", "([BI)[B"⟩, prog_26_method_121_code, 3, (some (.array .byte)), 17, il_22)
def mt_23 : MT := (⟨"java/lang/AbstractStringBuilder", "ensureCapacityInternal", "(I)V"⟩, prog_15_method_9_code, 3, none, 0, il_23)
def mt_24 : MT := (⟨"java/lang/AbstractStringBuilder", "isLatin1", "()Z"⟩, prog_15_method_68_code, 1, (some .boolean), 0, il_24)
def mt_25 : MT := (⟨"java/lang/StringLatin1", "canEncode", "(C)Z"⟩, prog_23_method_3_code, 1, (some .boolean), 18, il_25)
def mt_26 : MT := (⟨"java/lang/AbstractStringBuilder", "append", "(C)Ljava/lang/AbstractStringBuilder;"⟩, prog_15_method_31_code, 2, (some (.object "java/lang/AbstractStringBuilder")), 0, il_26)
def mt_27 : MT := (⟨"java/lang/StringBuilder", "append", "(C)Ljava/lang/StringBuilder;"⟩, prog_22_method_14_code, 2, (some (.object "java/lang/StringBuilder")), 1, il_27)
def mt_28 : MT := (⟨"PipelineSimulator", "append", "(II)I"⟩, prog_1_method_2_code, 4, (some .int), 13, il_28)
def mt_29 : MT := (⟨"PipelineSimulatorModel", "isIn", "(III)Z"⟩, prog_14_method_2_code, 3, (some .boolean), 14, il_29)
def mt_30 : MT := (⟨"PipelineSimulatorModel", "append", "(II)I"⟩, prog_14_method_7_code, 4, (some .int), 14, il_30)
def mt_31 : MT := (⟨"jdk/internal/util/Preconditions", "checkIndex", "(IILjava/util/function/BiFunction;)I"⟩, prog_28_method_11_code, 3, (some .int), 19, il_31)
def mt_32 : MT := (⟨"java/lang/String", "checkIndex", "(II)V"⟩, prog_21_method_155_code, 2, none, 20, il_32)
def mt_33 : MT := (⟨"java/lang/AbstractStringBuilder", "charAt", "(I)C"⟩, prog_15_method_14_code, 5, (some .char), 0, il_33)
def mt_34 : MT := (⟨"java/lang/StringBuilder", "charAt", "(I)C"⟩, prog_22_method_88_code, 2, (some .char), 1, il_34)
def mt_35 : MT := (⟨"PipelineSimulator$Reader", "sign", "()I"⟩, prog_9_method_3_code, 1, (some .int), 2, il_35)
def mt_36 : MT := (⟨"java/lang/String", "isLatin1", "()Z"⟩, prog_21_method_154_code, 1, (some .boolean), 20, il_36)
def mt_37 : MT := (⟨"java/lang/String", "coder", "()B"⟩, prog_21_method_152_code, 1, (some .byte), 20, il_37)
def mt_38 : MT := (⟨"java/lang/String", "length", "()I"⟩, prog_21_method_54_code, 1, (some .int), 20, il_38)
def mt_39 : MT := (⟨"java/lang/StringLatin1", "canEncode", "(I)Z"⟩, prog_23_method_4_code, 1, (some .boolean), 18, il_39)
def mt_40 : MT := (⟨"java/lang/StringLatin1", "indexOfChar", "([BIII)I"⟩, prog_23_method_23_code, 6, (some .int), 18, il_40)
def mt_41 : MT := (⟨"java/lang/StringLatin1", "indexOf", "([BIII)I"⟩, prog_23_method_22_code, 4, (some .int), 18, il_41)
def mt_42 : MT := (⟨"java/lang/String", "indexOf", "(II)I"⟩, prog_21_method_80_code, 3, (some .int), 20, il_42)
def mt_43 : MT := (⟨"java/lang/String", "indexOf", "(I)I"⟩, prog_21_method_79_code, 2, (some .int), 20, il_43)
def mt_44 : MT := (⟨"PipelineSimulator", "numbersOf", "(I)I"⟩, prog_1_method_26_code, 1, (some .int), 13, il_44)
def mt_45 : MT := (⟨"PipelineSimulator$Reader", "skip", "(C)Z"⟩, prog_9_method_6_code, 2, (some .boolean), 2, il_45)
def mt_46 : MT := (⟨"PipelineSimulator$Reader", "atDigit", "()Z"⟩, prog_9_method_9_code, 1, (some .boolean), 2, il_46)
def mt_47 : MT := (⟨"PipelineSimulator$Reader", "readNumber", "()Z"⟩, prog_9_method_7_code, 2, (some .boolean), 2, il_47)
def mt_48 : MT := (⟨"PipelineSimulator$Reader", "inRange", "(I)Z"⟩, prog_9_method_8_code, 2, (some .boolean), 2, il_48)
def mt_49 : MT := (⟨"PipelineSimulator$Reader", "atInstances", "()Z"⟩, prog_9_method_10_code, 1, (some .boolean), 2, il_49)
def mt_50 : MT := (⟨"PipelineSimulator$Reader", "readInstances", "()I"⟩, prog_9_method_11_code, 2, (some .int), 2, il_50)
def mt_51 : MT := (⟨"PipelineSimulator$Reader", "readStage", "(I)Z"⟩, prog_9_method_5_code, 5, (some .boolean), 2, il_51)
def mt_52 : MT := (⟨"PipelineSimulator$Reader", "readStages", "()Z"⟩, prog_9_method_4_code, 2, (some .boolean), 2, il_52)
def mt_53 : MT := (⟨"PipelineSimulator$Reader", "readAll", "()Z"⟩, prog_9_method_2_code, 1, (some .boolean), 2, il_53)
def mt_54 : MT := (⟨"java/lang/AbstractStringBuilder", "setLength", "(I)V"⟩, prog_15_method_13_code, 2, none, 0, il_54)
def mt_55 : MT := (⟨"java/lang/StringBuilder", "setLength", "(I)V"⟩, prog_22_method_89_code, 2, none, 1, il_55)
def mt_56 : MT := (⟨"PipelineSimulator$Simulation", "operatorAt", "(I)LPipelineSimulator$Operator;"⟩, prog_12_method_2_code, 2, (some (.object "PipelineSimulator$Operator")), 10, il_56)
def mt_57 : MT := (⟨"java/util/Arrays", "fill", "([II)V"⟩, prog_26_method_103_code, 4, none, 17, il_57)
def mt_58 : MT := (⟨"PipelineSimulator$Keyed", "wipe", "()V"⟩, prog_5_method_9_code, 1, none, 6, il_58)
def mt_59 : MT := (⟨"PipelineSimulator$Instance", "resetCounters", "()V"⟩, prog_4_method_2_code, 1, none, 7, il_59)
def mt_60 : MT := (⟨"PipelineSimulator$Operator", "resetCounters", "()V"⟩, prog_7_method_8_code, 5, none, 8, il_60)
def mt_61 : MT := (⟨"PipelineSimulator$Operator", "forgetAll", "()V"⟩, prog_7_method_7_code, 1, none, 8, il_61)
def mt_62 : MT := (⟨"PipelineSimulator$Latencies", "wipe", "()V"⟩, prog_6_method_4_code, 1, none, 5, il_62)
def mt_63 : MT := (⟨"PipelineSimulator$Records", "wipe", "()V"⟩, prog_10_method_7_code, 1, none, 4, il_63)
def mt_64 : MT := (⟨"PipelineSimulator$Channel", "wipe", "()V"⟩, prog_2_method_12_code, 1, none, 9, il_64)
def mt_65 : MT := (⟨"PipelineSimulator$Keyed", "copyAll", "(LPipelineSimulator$Keyed;)V"⟩, prog_5_method_8_code, 2, none, 6, il_65)
def mt_66 : MT := (⟨"PipelineSimulator$Instance", "returnToSaved", "()V"⟩, prog_4_method_3_code, 1, none, 7, il_66)
def mt_67 : MT := (⟨"PipelineSimulator$Operator", "returnToSaved", "()V"⟩, prog_7_method_9_code, 5, none, 8, il_67)
def mt_68 : MT := (⟨"PipelineSimulator$Simulation", "returnToSaved", "()V"⟩, prog_12_method_19_code, 5, none, 10, il_68)
def mt_69 : MT := (⟨"PipelineSimulator$Simulation", "beginAnew", "()V"⟩, prog_12_method_7_code, 5, none, 10, il_69)
def mt_70 : MT := (⟨"PipelineSimulator$Simulation", "replacePipeline", "(LPipelineSimulator$Reader;)V"⟩, prog_12_method_6_code, 4, none, 10, il_70)
def mt_71 : MT := (⟨"PipelineSimulator$Plain", "forget", "()V"⟩, prog_8_method_2_code, 3, none, 11, il_71)
def mt_72 : MT := (⟨"PipelineSimulator", "readPipeline", "()I"⟩, prog_1_method_3_code, 2, (some .int), 13, il_72)
def mt_73 : MT := (⟨"PipelineSimulatorModel", "here", "()I"⟩, prog_14_method_8_code, 1, (some .int), 14, il_73)
def mt_74 : MT := (⟨"PipelineSimulatorModel", "letter", "(I)I"⟩, prog_14_method_11_code, 1, (some .int), 14, il_74)
def mt_75 : MT := (⟨"PipelineSimulatorModel", "sign", "(I)V"⟩, prog_14_method_9_code, 2, none, 14, il_75)
def mt_76 : MT := (⟨"PipelineSimulatorModel", "number", "(II)I"⟩, prog_14_method_10_code, 5, (some .int), 14, il_76)
def mt_77 : MT := (⟨"PipelineSimulatorModel", "instances", "()I"⟩, prog_14_method_13_code, 2, (some .int), 14, il_77)
def mt_78 : MT := (⟨"PipelineSimulatorModel", "stage", "(I)V"⟩, prog_14_method_12_code, 3, none, 14, il_78)
def mt_79 : MT := (⟨"PipelineSimulatorModel", "breaks", "()V"⟩, prog_14_method_16_code, 2, none, 14, il_79)
def mt_80 : MT := (⟨"PipelineSimulatorModel", "begins", "()V"⟩, prog_14_method_15_code, 2, none, 14, il_80)
def mt_81 : MT := (⟨"PipelineSimulatorModel", "readPipeline", "()I"⟩, prog_14_method_14_code, 4, (some .int), 14, il_81)
def mt_82 : MT := (⟨"PipelineSimulator$Settings", "digits", "()I"⟩, prog_11_method_3_code, 1, (some .int), 3, il_82)
def mt_83 : MT := (⟨"PipelineSimulator$Settings", "change", "(IIII)V"⟩, prog_11_method_2_code, 5, none, 3, il_83)
def mt_84 : MT := (⟨"PipelineSimulator", "configure", "(IIII)I"⟩, prog_1_method_4_code, 6, (some .int), 13, il_84)
def mt_85 : MT := (⟨"PipelineSimulatorModel", "configure", "(IIII)I"⟩, prog_14_method_17_code, 6, (some .int), 14, il_85)
def mt_86 : MT := (⟨"PipelineSimulator$Records", "add", "(III)V"⟩, prog_10_method_2_code, 5, none, 4, il_86)
def mt_87 : MT := (⟨"PipelineSimulator", "push", "(II)I"⟩, prog_1_method_5_code, 3, (some .int), 13, il_87)
def mt_88 : MT := (⟨"PipelineSimulatorModel", "push", "(II)I"⟩, prog_14_method_18_code, 3, (some .int), 14, il_88)
def mt_89 : MT := (⟨"PipelineSimulator$Channel", "isEmpty", "()Z"⟩, prog_2_method_9_code, 1, (some .boolean), 9, il_89)
def mt_90 : MT := (⟨"PipelineSimulator$Simulation", "sizeOf", "(I)I"⟩, prog_12_method_3_code, 3, (some .int), 10, il_90)
def mt_91 : MT := (⟨"PipelineSimulator$Simulation", "instanceAt", "(II)LPipelineSimulator$Instance;"⟩, prog_12_method_4_code, 4, (some (.object "PipelineSimulator$Instance")), 10, il_91)
def mt_92 : MT := (⟨"PipelineSimulator$Simulation", "recordsInLists", "()I"⟩, prog_12_method_13_code, 5, (some .int), 10, il_92)
def mt_93 : MT := (⟨"PipelineSimulator$Simulation", "quiet", "()Z"⟩, prog_12_method_11_code, 5, (some .boolean), 10, il_93)
def mt_94 : MT := (⟨"PipelineSimulator$Channel", "hasRoom", "()Z"⟩, prog_2_method_2_code, 1, (some .boolean), 9, il_94)
def mt_95 : MT := (⟨"PipelineSimulator$Channel", "enqueue", "(I)V"⟩, prog_2_method_14_code, 2, none, 9, il_95)
def mt_96 : MT := (⟨"PipelineSimulator$Channel", "closeOpen", "()V"⟩, prog_2_method_13_code, 1, none, 9, il_96)
def mt_97 : MT := (⟨"PipelineSimulator$Channel", "growOlder", "()V"⟩, prog_2_method_7_code, 1, none, 9, il_97)
def mt_98 : MT := (⟨"PipelineSimulator$Operator", "isKeyed", "()Z"⟩, prog_7_method_3_code, 1, (some .boolean), 8, il_98)
def mt_99 : MT := (⟨"PipelineSimulator$Records", "keyAt", "(I)I"⟩, prog_10_method_3_code, 2, (some .int), 4, il_99)
def mt_100 : MT := (⟨"PipelineSimulator$Operator", "ownerOf", "(II)I"⟩, prog_7_method_4_code, 3, (some .int), 8, il_100)
def mt_101 : MT := (⟨"java/lang/Math", "floorMod", "(II)I"⟩, prog_19_method_50_code, 3, (some .int), 15, il_101)
def mt_102 : MT := (⟨"PipelineSimulator$Simulation", "targetOf", "(ILPipelineSimulator$Instance;)I"⟩, prog_12_method_16_code, 4, (some .int), 10, il_102)
def mt_103 : MT := (⟨"PipelineSimulator$Simulation", "channelAt", "(III)LPipelineSimulator$Channel;"⟩, prog_12_method_5_code, 7, (some (.object "PipelineSimulator$Channel")), 10, il_103)
def mt_104 : MT := (⟨"PipelineSimulator$Channel", "takesRecord", "()Z"⟩, prog_2_method_3_code, 1, (some .boolean), 9, il_104)
def mt_105 : MT := (⟨"PipelineSimulator$Records", "valueAt", "(I)I"⟩, prog_10_method_4_code, 2, (some .int), 4, il_105)
def mt_106 : MT := (⟨"PipelineSimulator$Records", "birthAt", "(I)I"⟩, prog_10_method_5_code, 2, (some .int), 4, il_106)
def mt_107 : MT := (⟨"PipelineSimulator$Channel", "putRecord", "(III)V"⟩, prog_2_method_5_code, 4, none, 9, il_107)
def mt_108 : MT := (⟨"PipelineSimulator$Records", "removeFirst", "()V"⟩, prog_10_method_6_code, 1, none, 4, il_108)
def mt_109 : MT := (⟨"PipelineSimulator$Simulation", "sendList", "(IILPipelineSimulator$Instance;)Z"⟩, prog_12_method_21_code, 9, (some .boolean), 10, il_109)
def mt_110 : MT := (⟨"PipelineSimulator$Channel", "takesBarrier", "()Z"⟩, prog_2_method_4_code, 2, (some .boolean), 9, il_110)
def mt_111 : MT := (⟨"PipelineSimulator$Simulation", "targetWithoutRoom", "(II)I"⟩, prog_12_method_17_code, 5, (some .int), 10, il_111)
def mt_112 : MT := (⟨"PipelineSimulator$Channel", "putBarrier", "()V"⟩, prog_2_method_6_code, 1, none, 9, il_112)
def mt_113 : MT := (⟨"PipelineSimulator$Simulation", "sendBarrier", "(IILPipelineSimulator$Instance;)Z"⟩, prog_12_method_22_code, 6, (some .boolean), 10, il_113)
def mt_114 : MT := (⟨"PipelineSimulator$Simulation", "takeInput", "(LPipelineSimulator$Operator;LPipelineSimulator$Instance;)Z"⟩, prog_12_method_23_code, 3, (some .boolean), 10, il_114)
def mt_115 : MT := (⟨"PipelineSimulator$Channel", "hasItem", "()Z"⟩, prog_2_method_8_code, 1, (some .boolean), 9, il_115)
def mt_116 : MT := (⟨"PipelineSimulator$Simulation", "inputToTake", "(II)I"⟩, prog_12_method_18_code, 9, (some .int), 10, il_116)
def mt_117 : MT := (⟨"PipelineSimulator$Channel", "startsWithBarrier", "()Z"⟩, prog_2_method_10_code, 1, (some .boolean), 9, il_117)
def mt_118 : MT := (⟨"PipelineSimulator$Channel", "removeItem", "()V"⟩, prog_2_method_11_code, 2, none, 9, il_118)
def mt_119 : MT := (⟨"PipelineSimulator$Keyed", "copyKey", "(LPipelineSimulator$Keyed;I)V"⟩, prog_5_method_7_code, 5, none, 6, il_119)
def mt_120 : MT := (⟨"PipelineSimulator$Operator", "savePending", "(I)V"⟩, prog_7_method_10_code, 3, none, 8, il_120)
def mt_121 : MT := (⟨"PipelineSimulator$Simulation", "saveInstance", "(ILPipelineSimulator$Operator;LPipelineSimulator$Instance;)V"⟩, prog_12_method_25_code, 4, none, 10, il_121)
def mt_122 : MT := (⟨"java/util/Arrays", "copyOf", "([II)[I"⟩, prog_26_method_123_code, 3, (some (.array .int)), 17, il_122)
def mt_123 : MT := (⟨"PipelineSimulator$Latencies", "note", "(I)V"⟩, prog_6_method_2_code, 3, none, 5, il_123)
def mt_124 : MT := (⟨"PipelineSimulator$Operator", "passes", "(I)Z"⟩, prog_7_method_13_code, 2, (some .boolean), 8, il_124)
def mt_125 : MT := (⟨"PipelineSimulator$Keyed", "firstOf", "(I)I"⟩, prog_5_method_3_code, 2, (some .int), 6, il_125)
def mt_126 : MT := (⟨"PipelineSimulator$Keyed", "secondOf", "(I)I"⟩, prog_5_method_4_code, 2, (some .int), 6, il_126)
def mt_127 : MT := (⟨"PipelineSimulator$Keyed", "remove", "(I)V"⟩, prog_5_method_6_code, 2, none, 6, il_127)
def mt_128 : MT := (⟨"PipelineSimulator$Keyed", "put", "(III)V"⟩, prog_5_method_5_code, 4, none, 6, il_128)
def mt_129 : MT := (⟨"PipelineSimulator$Operator", "addToSum", "(LPipelineSimulator$Keyed;IIILPipelineSimulator$Records;)V"⟩, prog_7_method_14_code, 8, none, 8, il_129)
def mt_130 : MT := (⟨"PipelineSimulator$Keyed", "has", "(I)Z"⟩, prog_5_method_2_code, 2, (some .boolean), 6, il_130)
def mt_131 : MT := (⟨"PipelineSimulator$Operator", "handle", "(LPipelineSimulator$Keyed;IIILPipelineSimulator$Records;)V"⟩, prog_7_method_12_code, 7, none, 8, il_131)
def mt_132 : MT := (⟨"PipelineSimulator$Simulation", "takeItem", "(IILPipelineSimulator$Operator;LPipelineSimulator$Instance;)Z"⟩, prog_12_method_24_code, 11, (some .boolean), 10, il_132)
def mt_133 : MT := (⟨"PipelineSimulator$Simulation", "work", "(II)V"⟩, prog_12_method_20_code, 7, none, 10, il_133)
def mt_134 : MT := (⟨"PipelineSimulator$Operator", "completePending", "()V"⟩, prog_7_method_11_code, 3, none, 8, il_134)
def mt_135 : MT := (⟨"PipelineSimulator$Simulation", "completeCheckpoint", "()V"⟩, prog_12_method_26_code, 3, none, 10, il_135)
def mt_136 : MT := (⟨"PipelineSimulator$Simulation", "performTick", "()V"⟩, prog_12_method_15_code, 5, none, 10, il_136)
def mt_137 : MT := (⟨"PipelineSimulator", "tick", "(I)I"⟩, prog_1_method_6_code, 3, (some .int), 13, il_137)
def mt_138 : MT := (⟨"PipelineSimulatorModel", "quiet", "()Z"⟩, prog_14_method_44_code, 2, (some .boolean), 14, il_138)
def mt_139 : MT := (⟨"PipelineSimulatorModel", "closes", "(I)V"⟩, prog_14_method_24_code, 4, none, 14, il_139)
def mt_140 : MT := (⟨"PipelineSimulatorModel", "sink", "()I"⟩, prog_14_method_3_code, 1, (some .int), 14, il_140)
def mt_141 : MT := (⟨"PipelineSimulatorModel", "spot", "(II)I"⟩, prog_14_method_20_code, 2, (some .int), 14, il_141)
def mt_142 : MT := (⟨"PipelineSimulatorModel", "isKeyed", "(I)Z"⟩, prog_14_method_5_code, 2, (some .boolean), 14, il_142)
def mt_143 : MT := (⟨"PipelineSimulatorModel", "home", "(II)I"⟩, prog_14_method_6_code, 3, (some .int), 14, il_143)
def mt_144 : MT := (⟨"PipelineSimulatorModel", "goal", "(III)I"⟩, prog_14_method_29_code, 4, (some .int), 14, il_144)
def mt_145 : MT := (⟨"PipelineSimulatorModel", "line", "(III)I"⟩, prog_14_method_21_code, 3, (some .int), 14, il_145)
def mt_146 : MT := (⟨"PipelineSimulatorModel", "takesRecord", "(I)Z"⟩, prog_14_method_22_code, 2, (some .boolean), 14, il_146)
def mt_147 : MT := (⟨"PipelineSimulatorModel", "puts", "(IIII)V"⟩, prog_14_method_25_code, 5, none, 14, il_147)
def mt_148 : MT := (⟨"PipelineSimulatorModel", "takesBarrier", "(I)Z"⟩, prog_14_method_23_code, 2, (some .boolean), 14, il_148)
def mt_149 : MT := (⟨"PipelineSimulatorModel", "refusing", "(II)I"⟩, prog_14_method_41_code, 4, (some .int), 14, il_149)
def mt_150 : MT := (⟨"PipelineSimulatorModel", "putsBarrier", "(I)V"⟩, prog_14_method_26_code, 2, none, 14, il_150)
def mt_151 : MT := (⟨"PipelineSimulatorModel", "sends", "(II)Z"⟩, prog_14_method_42_code, 7, (some .boolean), 14, il_151)
def mt_152 : MT := (⟨"PipelineSimulatorModel", "emits", "(IIIII)V"⟩, prog_14_method_30_code, 7, none, 14, il_152)
def mt_153 : MT := (⟨"PipelineSimulatorModel", "ready", "(II)I"⟩, prog_14_method_39_code, 6, (some .int), 14, il_153)
def mt_154 : MT := (⟨"PipelineSimulatorModel", "pops", "(I)V"⟩, prog_14_method_27_code, 4, none, 14, il_154)
def mt_155 : MT := (⟨"PipelineSimulatorModel", "saves", "(II)V"⟩, prog_14_method_36_code, 5, none, 14, il_155)
def mt_156 : MT := (⟨"PipelineSimulatorModel", "completes", "()V"⟩, prog_14_method_37_code, 2, none, 14, il_156)
def mt_157 : MT := (⟨"PipelineSimulatorModel", "barrier", "(III)V"⟩, prog_14_method_38_code, 5, none, 14, il_157)
def mt_158 : MT := (⟨"PipelineSimulatorModel", "gives", "(II)V"⟩, prog_14_method_31_code, 3, none, 14, il_158)
def mt_159 : MT := (⟨"PipelineSimulatorModel", "rest", "(I)I"⟩, prog_14_method_32_code, 2, (some .int), 14, il_159)
def mt_160 : MT := (⟨"PipelineSimulatorModel", "processes", "(III[Z[I[I)V"⟩, prog_14_method_33_code, 10, none, 14, il_160)
def mt_161 : MT := (⟨"PipelineSimulatorModel", "takesIn", "(IIIII)V"⟩, prog_14_method_34_code, 7, none, 14, il_161)
def mt_162 : MT := (⟨"PipelineSimulatorModel", "takes", "(II)Z"⟩, prog_14_method_40_code, 8, (some .boolean), 14, il_162)
def mt_163 : MT := (⟨"PipelineSimulatorModel", "works", "(II)V"⟩, prog_14_method_43_code, 5, none, 14, il_163)
def mt_164 : MT := (⟨"PipelineSimulatorModel", "ticks", "()V"⟩, prog_14_method_45_code, 3, none, 14, il_164)
def mt_165 : MT := (⟨"PipelineSimulatorModel", "tick", "(I)I"⟩, prog_14_method_46_code, 3, (some .int), 14, il_165)
def mt_166 : MT := (⟨"PipelineSimulator", "isQuiet", "()I"⟩, prog_1_method_7_code, 1, (some .int), 13, il_166)
def mt_167 : MT := (⟨"PipelineSimulatorModel", "isQuiet", "()I"⟩, prog_14_method_47_code, 1, (some .int), 14, il_167)
def mt_168 : MT := (⟨"PipelineSimulator$Simulation", "beginCheckpoint", "()V"⟩, prog_12_method_10_code, 2, none, 10, il_168)
def mt_169 : MT := (⟨"PipelineSimulator", "checkpoint", "()I"⟩, prog_1_method_8_code, 1, (some .int), 13, il_169)
def mt_170 : MT := (⟨"PipelineSimulatorModel", "checkpoint", "()I"⟩, prog_14_method_48_code, 2, (some .int), 14, il_170)
def mt_171 : MT := (⟨"PipelineSimulator$Simulation", "failNow", "()V"⟩, prog_12_method_8_code, 1, none, 10, il_171)
def mt_172 : MT := (⟨"PipelineSimulator", "fail", "()I"⟩, prog_1_method_9_code, 1, (some .int), 13, il_172)
def mt_173 : MT := (⟨"PipelineSimulatorModel", "fail", "()I"⟩, prog_14_method_49_code, 1, (some .int), 14, il_173)
def mt_174 : MT := (⟨"PipelineSimulator$Operator", "keysMovedBy", "(I)I"⟩, prog_7_method_6_code, 4, (some .int), 8, il_174)
def mt_175 : MT := (⟨"PipelineSimulator$Simulation", "changeInstances", "(II)I"⟩, prog_12_method_9_code, 5, (some .int), 10, il_175)
def mt_176 : MT := (⟨"PipelineSimulator", "rescale", "(II)I"⟩, prog_1_method_10_code, 3, (some .int), 13, il_176)
def mt_177 : MT := (⟨"PipelineSimulatorModel", "isOperator", "(I)Z"⟩, prog_14_method_4_code, 2, (some .boolean), 14, il_177)
def mt_178 : MT := (⟨"PipelineSimulatorModel", "rescale", "(II)I"⟩, prog_14_method_50_code, 6, (some .int), 14, il_178)
def mt_179 : MT := (⟨"PipelineSimulator$Simulation", "recordsInChannels", "()I"⟩, prog_12_method_12_code, 6, (some .int), 10, il_179)
def mt_180 : MT := (⟨"PipelineSimulator$Simulation", "recordsInSink", "()I"⟩, prog_12_method_14_code, 4, (some .int), 10, il_180)
def mt_181 : MT := (⟨"PipelineSimulator", "count", "(I)I"⟩, prog_1_method_11_code, 2, (some .int), 13, il_181)
def mt_182 : MT := (⟨"PipelineSimulatorModel", "inside", "(I)I"⟩, prog_14_method_28_code, 4, (some .int), 14, il_182)
def mt_183 : MT := (⟨"PipelineSimulatorModel", "count", "(I)I"⟩, prog_14_method_51_code, 4, (some .int), 14, il_183)
def mt_184 : MT := (⟨"PipelineSimulator", "operator", "(II)I"⟩, prog_1_method_12_code, 4, (some .int), 13, il_184)
def mt_185 : MT := (⟨"PipelineSimulatorModel", "operator", "(II)I"⟩, prog_14_method_52_code, 3, (some .int), 14, il_185)
def mt_186 : MT := (⟨"PipelineSimulator$Operator", "keysOf", "(I)I"⟩, prog_7_method_5_code, 4, (some .int), 8, il_186)
def mt_187 : MT := (⟨"PipelineSimulator", "instance", "(III)I"⟩, prog_1_method_13_code, 6, (some .int), 13, il_187)
def mt_188 : MT := (⟨"PipelineSimulatorModel", "keysOf", "(II)I"⟩, prog_14_method_53_code, 5, (some .int), 14, il_188)
def mt_189 : MT := (⟨"PipelineSimulatorModel", "instance", "(III)I"⟩, prog_14_method_54_code, 5, (some .int), 14, il_189)
def mt_190 : MT := (⟨"PipelineSimulator", "channel", "(IIII)I"⟩, prog_1_method_14_code, 6, (some .int), 13, il_190)
def mt_191 : MT := (⟨"PipelineSimulatorModel", "channel", "(IIII)I"⟩, prog_14_method_55_code, 6, (some .int), 14, il_191)
def mt_192 : MT := (⟨"PipelineSimulator", "numberOf", "(LPipelineSimulator$Keyed;II)I"⟩, prog_1_method_24_code, 3, (some .int), 13, il_192)
def mt_193 : MT := (⟨"PipelineSimulator", "state", "(III)I"⟩, prog_1_method_15_code, 5, (some .int), 13, il_193)
def mt_194 : MT := (⟨"PipelineSimulatorModel", "told", "(III[Z[I[I)I"⟩, prog_14_method_56_code, 7, (some .int), 14, il_194)
def mt_195 : MT := (⟨"PipelineSimulatorModel", "state", "(III)I"⟩, prog_14_method_57_code, 4, (some .int), 14, il_195)
def mt_196 : MT := (⟨"PipelineSimulator", "savedState", "(III)I"⟩, prog_1_method_16_code, 5, (some .int), 13, il_196)
def mt_197 : MT := (⟨"PipelineSimulatorModel", "savedState", "(III)I"⟩, prog_14_method_58_code, 4, (some .int), 14, il_197)
def mt_198 : MT := (⟨"PipelineSimulator$Latencies", "leastOf", "(I)I"⟩, prog_6_method_3_code, 5, (some .int), 5, il_198)
def mt_199 : MT := (⟨"PipelineSimulator", "latency", "(I)I"⟩, prog_1_method_17_code, 3, (some .int), 13, il_199)
def mt_200 : MT := (⟨"PipelineSimulatorModel", "latency", "(I)I"⟩, prog_14_method_35_code, 7, (some .int), 14, il_200)
def mt_201 : MT := (⟨"PipelineSimulator$Plain", "follow", "(LPipelineSimulator$Simulation;III)V"⟩, prog_8_method_4_code, 8, none, 11, il_201)
def mt_202 : MT := (⟨"PipelineSimulator$Plain", "catchUp", "()V"⟩, prog_8_method_3_code, 3, none, 11, il_202)
def mt_203 : MT := (⟨"PipelineSimulator", "plain", "(II)I"⟩, prog_1_method_18_code, 4, (some .int), 13, il_203)
def mt_204 : MT := (⟨"PipelineSimulatorModel", "plainly", "()V"⟩, prog_14_method_59_code, 5, none, 14, il_204)
def mt_205 : MT := (⟨"PipelineSimulatorModel", "plain", "(II)I"⟩, prog_14_method_60_code, 3, (some .int), 14, il_205)
def mt_206 : MT := (⟨"PipelineSimulator$Explanation", "reasonOf", "(II)I"⟩, prog_3_method_3_code, 5, (some .int), 12, il_206)
def mt_207 : MT := (⟨"PipelineSimulator$Explanation", "lowestRunning", "(I)I"⟩, prog_3_method_5_code, 2, (some .int), 12, il_207)
def mt_208 : MT := (⟨"PipelineSimulator$Explanation", "awaited", "(III)I"⟩, prog_3_method_4_code, 5, (some .int), 12, il_208)
def mt_209 : MT := (⟨"PipelineSimulator$Explanation", "begin", "(II)I"⟩, prog_3_method_2_code, 7, (some .int), 12, il_209)
def mt_210 : MT := (⟨"PipelineSimulator", "explain", "(II)I"⟩, prog_1_method_19_code, 3, (some .int), 13, il_210)
def mt_211 : MT := (⟨"PipelineSimulatorModel", "reasonOf", "(II)I"⟩, prog_14_method_61_code, 4, (some .int), 14, il_211)
def mt_212 : MT := (⟨"PipelineSimulatorModel", "explain", "(II)I"⟩, prog_14_method_62_code, 7, (some .int), 14, il_212)
def mt_213 : MT := (⟨"PipelineSimulator", "explanation", "(II)I"⟩, prog_1_method_20_code, 3, (some .int), 13, il_213)
def mt_214 : MT := (⟨"PipelineSimulatorModel", "explanation", "(II)I"⟩, prog_14_method_63_code, 3, (some .int), 14, il_214)
def mt_215 : MT := (⟨"java/lang/StringLatin1", "charAt", "([BI)C"⟩, prog_23_method_2_code, 2, (some .char), 18, il_215)
def mt_216 : MT := (⟨"java/lang/String", "charAt", "(I)C"⟩, prog_21_method_56_code, 2, (some .char), 20, il_216)
def mt_217 : MT := (⟨"java/lang/Integer", "stringSize", "(I)I"⟩, prog_18_method_13_code, 4, (some .int), 21, il_217)
def mt_218 : MT := (⟨"java/lang/Integer", "getChars", "(II[B)I"⟩, prog_18_method_12_code, 7, (some .int), 21, il_218)
def mt_219 : MT := (⟨"java/lang/AbstractStringBuilder", "append", "(I)Ljava/lang/AbstractStringBuilder;"⟩, prog_15_method_32_code, 4, (some (.object "java/lang/AbstractStringBuilder")), 0, il_219)
def mt_220 : MT := (⟨"java/lang/StringBuilder", "append", "(I)Ljava/lang/StringBuilder;"⟩, prog_22_method_15_code, 2, (some (.object "java/lang/StringBuilder")), 1, il_220)
def mt_221 : MT := (⟨"PipelineSimulator", "writeStage", "(LPipelineSimulator$Operator;)V"⟩, prog_1_method_25_code, 3, none, 13, il_221)
def mt_222 : MT := (⟨"PipelineSimulator", "write", "()I"⟩, prog_1_method_21_code, 2, (some .int), 13, il_222)
def mt_223 : MT := (⟨"PipelineSimulatorModel", "writes", "(I)V"⟩, prog_14_method_64_code, 2, none, 14, il_223)
def mt_224 : MT := (⟨"PipelineSimulatorModel", "writesNumber", "(I)V"⟩, prog_14_method_65_code, 3, none, 14, il_224)
def mt_225 : MT := (⟨"PipelineSimulatorModel", "write", "()I"⟩, prog_14_method_66_code, 3, (some .int), 14, il_225)
def mt_226 : MT := (⟨"PipelineSimulator", "written", "(I)I"⟩, prog_1_method_22_code, 2, (some .int), 13, il_226)
def mt_227 : MT := (⟨"PipelineSimulatorModel", "written", "(I)I"⟩, prog_14_method_67_code, 2, (some .int), 14, il_227)
def mt_228 : MT := (⟨"PipelineSimulator", "clear", "()I"⟩, prog_1_method_23_code, 2, (some .int), 13, il_228)
def mt_229 : MT := (⟨"PipelineSimulatorModel", "clear", "()I"⟩, prog_14_method_19_code, 2, (some .int), 14, il_229)
def mt_230 : MT := (⟨"PipelineSimulatorLaw", "law", "([I)Z"⟩, code, 4, (some .boolean), 22, il_230)
def mtDec (q : MT) : Bool := q.2.2.2.2.2.all (fun e => decide (decode q.2.1 e.1 = .ok (e.2.1, e.2.2 - e.1)))
def mtOK (q : MT) : Prop := mtDec q = true ∧ q.1.cls = oN q.2.2.2.2.1 ∧ q.2.2.1 ≤ 11 ∧ plainFor q.1 = true
def mtCW (q : MT) : Prop := Cond.code q.1 q.2.1 q.2.2.1 q.2.2.2.1 ∈ ALL
theorem t_ALL {w : Cond} (h : w ∈ tables_1) (g : goodWord w = true) : w ∈ ALL := List.mem_filter.mpr ⟨List.mem_append_right _ (List.mem_append_right _ h), g⟩
theorem t_c1 {w : Cond} (h : w ∈ tables_1_1) : w ∈ tables_1 := List.mem_append_left _ h
theorem t_c2 {w : Cond} (h : w ∈ tables_1_2) : w ∈ tables_1 := List.mem_append_right _ (List.mem_append_left _ h)
theorem t_c3 {w : Cond} (h : w ∈ tables_1_3) : w ∈ tables_1 := List.mem_append_right _ (List.mem_append_right _ (List.mem_append_left _ h))
theorem t_c4 {w : Cond} (h : w ∈ tables_1_4) : w ∈ tables_1 := List.mem_append_right _ (List.mem_append_right _ (List.mem_append_right _ (List.mem_append_left _ h)))
theorem t_c5 {w : Cond} (h : w ∈ tables_1_5) : w ∈ tables_1 := List.mem_append_right _ (List.mem_append_right _ (List.mem_append_right _ (List.mem_append_right _ (List.mem_append_left _ h))))
theorem t_c6 {w : Cond} (h : w ∈ tables_1_6) : w ∈ tables_1 := List.mem_append_right _ (List.mem_append_right _ (List.mem_append_right _ (List.mem_append_right _ (List.mem_append_right _ (List.mem_append_left _ h)))))
theorem t_c7 {w : Cond} (h : w ∈ tables_1_7) : w ∈ tables_1 := List.mem_append_right _ (List.mem_append_right _ (List.mem_append_right _ (List.mem_append_right _ (List.mem_append_right _ (List.mem_append_right _ (List.mem_append_left _ h))))))
theorem t_c8 {w : Cond} (h : w ∈ tables_1_8) : w ∈ tables_1 := List.mem_append_right _ (List.mem_append_right _ (List.mem_append_right _ (List.mem_append_right _ (List.mem_append_right _ (List.mem_append_right _ (List.mem_append_right _ h))))))
theorem all_50 {α : Type} {f : α → Bool} : ∀ (n : Nat) (l : List α), l.length ≤ n * 50 → (∀ j, j < n → ((l.drop (j * 50)).take 50).all f = true) → l.all f = true
  | 0, l, h, _ => by
    have : l = [] := List.eq_nil_of_length_eq_zero (by omega)
    subst this
    rfl
  | n + 1, l, h, hj => by
    rw [← List.take_append_drop 50 l, List.all_append, Bool.and_eq_true]
    refine ⟨by have h0 := hj 0 (by omega); rw [Nat.zero_mul, List.drop_zero] at h0; exact h0, all_50 n (l.drop 50) (by rw [List.length_drop]; omega) (fun j hn => ?_)⟩
    have h1 := hj (j + 1) (by omega)
    rw [List.drop_drop]
    rwa [show 50 + j * 50 = (j + 1) * 50 from by rw [Nat.add_mul]; omega]
theorem j_1 {P : Nat → Prop} (h0 : P 0) : ∀ j, j < 1 → P j := fun j h => (Nat.lt_one_iff.mp h) ▸ h0
theorem j_2 {P : Nat → Prop} (h : ∀ j, j < 1 → P j) (h1 : P 1) : ∀ j, j < 2 → P j := fun j hj => (Nat.lt_or_eq_of_le (Nat.le_of_lt_succ hj)).elim (h j) (fun e => e ▸ h1)
theorem j_3 {P : Nat → Prop} (h : ∀ j, j < 2 → P j) (h2 : P 2) : ∀ j, j < 3 → P j := fun j hj => (Nat.lt_or_eq_of_le (Nat.le_of_lt_succ hj)).elim (h j) (fun e => e ▸ h2)
theorem j_4 {P : Nat → Prop} (h : ∀ j, j < 3 → P j) (h3 : P 3) : ∀ j, j < 4 → P j := fun j hj => (Nat.lt_or_eq_of_le (Nat.le_of_lt_succ hj)).elim (h j) (fun e => e ▸ h3)
theorem j_5 {P : Nat → Prop} (h : ∀ j, j < 4 → P j) (h4 : P 4) : ∀ j, j < 5 → P j := fun j hj => (Nat.lt_or_eq_of_le (Nat.le_of_lt_succ hj)).elim (h j) (fun e => e ▸ h4)
theorem j_6 {P : Nat → Prop} (h : ∀ j, j < 5 → P j) (h5 : P 5) : ∀ j, j < 6 → P j := fun j hj => (Nat.lt_or_eq_of_le (Nat.le_of_lt_succ hj)).elim (h j) (fun e => e ▸ h5)
theorem j_7 {P : Nat → Prop} (h : ∀ j, j < 6 → P j) (h6 : P 6) : ∀ j, j < 7 → P j := fun j hj => (Nat.lt_or_eq_of_le (Nat.le_of_lt_succ hj)).elim (h j) (fun e => e ▸ h6)
theorem j_8 {P : Nat → Prop} (h : ∀ j, j < 7 → P j) (h7 : P 7) : ∀ j, j < 8 → P j := fun j hj => (Nat.lt_or_eq_of_le (Nat.le_of_lt_succ hj)).elim (h j) (fun e => e ▸ h7)
theorem j_9 {P : Nat → Prop} (h : ∀ j, j < 8 → P j) (h8 : P 8) : ∀ j, j < 9 → P j := fun j hj => (Nat.lt_or_eq_of_le (Nat.le_of_lt_succ hj)).elim (h j) (fun e => e ▸ h8)
theorem j_10 {P : Nat → Prop} (h : ∀ j, j < 9 → P j) (h9 : P 9) : ∀ j, j < 10 → P j := fun j hj => (Nat.lt_or_eq_of_le (Nat.le_of_lt_succ hj)).elim (h j) (fun e => e ▸ h9)
theorem j_11 {P : Nat → Prop} (h : ∀ j, j < 10 → P j) (h10 : P 10) : ∀ j, j < 11 → P j := fun j hj => (Nat.lt_or_eq_of_le (Nat.le_of_lt_succ hj)).elim (h j) (fun e => e ▸ h10)
theorem j_12 {P : Nat → Prop} (h : ∀ j, j < 11 → P j) (h11 : P 11) : ∀ j, j < 12 → P j := fun j hj => (Nat.lt_or_eq_of_le (Nat.le_of_lt_succ hj)).elim (h j) (fun e => e ▸ h11)
set_option maxRecDepth 20000 in
theorem cw_0 : mtCW mt_0 := t_ALL (t_c1 (List.mem_of_getElem? (i := 42) rfl)) rfl
theorem mo_0 : mtOK mt_0 := ⟨all_50 1 il_0 (by decide +kernel) (j_1 dec_0_0), by decide +kernel, by decide +kernel, by decide +kernel⟩
set_option maxRecDepth 20000 in
theorem cw_1 : mtCW mt_1 := t_ALL (t_c1 (List.mem_of_getElem? (i := 39) rfl)) rfl
theorem mo_1 : mtOK mt_1 := ⟨all_50 1 il_1 (by decide +kernel) (j_1 dec_1_0), by decide +kernel, by decide +kernel, by decide +kernel⟩
set_option maxRecDepth 20000 in
theorem cw_2 : mtCW mt_2 := t_ALL (t_c1 (List.mem_of_getElem? (i := 71) rfl)) rfl
theorem mo_2 : mtOK mt_2 := ⟨all_50 1 il_2 (by decide +kernel) (j_1 dec_2_0), by decide +kernel, by decide +kernel, by decide +kernel⟩
set_option maxRecDepth 20000 in
theorem cw_3 : mtCW mt_3 := t_ALL (t_c1 (List.mem_of_getElem? (i := 119) rfl)) rfl
theorem mo_3 : mtOK mt_3 := ⟨all_50 1 il_3 (by decide +kernel) (j_1 dec_3_0), by decide +kernel, by decide +kernel, by decide +kernel⟩
set_option maxRecDepth 20000 in
theorem cw_4 : mtCW mt_4 := t_ALL (t_c1 (List.mem_of_getElem? (i := 143) rfl)) rfl
theorem mo_4 : mtOK mt_4 := ⟨all_50 1 il_4 (by decide +kernel) (j_1 dec_4_0), by decide +kernel, by decide +kernel, by decide +kernel⟩
set_option maxRecDepth 20000 in
theorem cw_5 : mtCW mt_5 := t_ALL (t_c1 (List.mem_of_getElem? (i := 176) rfl)) rfl
theorem mo_5 : mtOK mt_5 := ⟨all_50 1 il_5 (by decide +kernel) (j_1 dec_5_0), by decide +kernel, by decide +kernel, by decide +kernel⟩
set_option maxRecDepth 20000 in
theorem cw_6 : mtCW mt_6 := t_ALL (t_c1 (List.mem_of_getElem? (i := 201) rfl)) rfl
theorem mo_6 : mtOK mt_6 := ⟨all_50 1 il_6 (by decide +kernel) (j_1 dec_6_0), by decide +kernel, by decide +kernel, by decide +kernel⟩
set_option maxRecDepth 20000 in
theorem cw_7 : mtCW mt_7 := t_ALL (t_c1 (List.mem_of_getElem? (i := 218) rfl)) rfl
theorem mo_7 : mtOK mt_7 := ⟨all_50 1 il_7 (by decide +kernel) (j_1 dec_7_0), by decide +kernel, by decide +kernel, by decide +kernel⟩
set_option maxRecDepth 20000 in
theorem cw_8 : mtCW mt_8 := t_ALL (t_c2 (List.mem_of_getElem? (i := 21) rfl)) rfl
theorem mo_8 : mtOK mt_8 := ⟨all_50 1 il_8 (by decide +kernel) (j_1 dec_8_0), by decide +kernel, by decide +kernel, by decide +kernel⟩
set_option maxRecDepth 20000 in
theorem cw_9 : mtCW mt_9 := t_ALL (t_c1 (List.mem_of_getElem? (i := 193) rfl)) rfl
theorem mo_9 : mtOK mt_9 := ⟨all_50 2 il_9 (by decide +kernel) (j_2 (j_1 dec_9_0) dec_9_50), by decide +kernel, by decide +kernel, by decide +kernel⟩
set_option maxRecDepth 20000 in
theorem cw_10 : mtCW mt_10 := t_ALL (t_c2 (List.mem_of_getElem? (i := 89) rfl)) rfl
theorem mo_10 : mtOK mt_10 := ⟨all_50 1 il_10 (by decide +kernel) (j_1 dec_10_0), by decide +kernel, by decide +kernel, by decide +kernel⟩
set_option maxRecDepth 20000 in
theorem cw_11 : mtCW mt_11 := t_ALL (t_c1 (List.mem_of_getElem? (i := 113) rfl)) rfl
theorem mo_11 : mtOK mt_11 := ⟨all_50 2 il_11 (by decide +kernel) (j_2 (j_1 dec_11_0) dec_11_50), by decide +kernel, by decide +kernel, by decide +kernel⟩
set_option maxRecDepth 20000 in
theorem cw_12 : mtCW mt_12 := t_ALL (t_c2 (List.mem_of_getElem? (i := 185) rfl)) rfl
theorem mo_12 : mtOK mt_12 := ⟨all_50 1 il_12 (by decide +kernel) (j_1 dec_12_0), by decide +kernel, by decide +kernel, by decide +kernel⟩
set_option maxRecDepth 20000 in
theorem cw_13 : mtCW mt_13 := t_ALL (t_c2 (List.mem_of_getElem? (i := 198) rfl)) rfl
theorem mo_13 : mtOK mt_13 := ⟨all_50 1 il_13 (by decide +kernel) (j_1 dec_13_0), by decide +kernel, by decide +kernel, by decide +kernel⟩
set_option maxRecDepth 20000 in
theorem cw_14 : mtCW mt_14 := t_ALL (t_c1 (List.mem_of_getElem? (i := 31) rfl)) rfl
theorem mo_14 : mtOK mt_14 := ⟨all_50 1 il_14 (by decide +kernel) (j_1 dec_14_0), by decide +kernel, by decide +kernel, by decide +kernel⟩
set_option maxRecDepth 20000 in
theorem cw_15 : mtCW mt_15 := t_ALL (t_c6 (List.mem_of_getElem? (i := 30) rfl)) rfl
theorem mo_15 : mtOK mt_15 := ⟨all_50 6 il_15 (by decide +kernel) (j_6 (j_5 (j_4 (j_3 (j_2 (j_1 dec_15_0) dec_15_50) dec_15_100) dec_15_150) dec_15_200) dec_15_250), by decide +kernel, by decide +kernel, by decide +kernel⟩
set_option maxRecDepth 20000 in
theorem cw_16 : mtCW mt_16 := t_ALL (t_c3 (List.mem_of_getElem? (i := 6) rfl)) rfl
theorem mo_16 : mtOK mt_16 := ⟨all_50 1 il_16 (by decide +kernel) (j_1 dec_16_0), by decide +kernel, by decide +kernel, by decide +kernel⟩
set_option maxRecDepth 20000 in
theorem cw_17 : mtCW mt_17 := t_ALL (t_c3 (List.mem_of_getElem? (i := 3) rfl)) rfl
theorem mo_17 : mtOK mt_17 := ⟨all_50 1 il_17 (by decide +kernel) (j_1 dec_17_0), by decide +kernel, by decide +kernel, by decide +kernel⟩
set_option maxRecDepth 20000 in
theorem cw_18 : mtCW mt_18 := t_ALL (t_c3 (List.mem_of_getElem? (i := 28) rfl)) rfl
theorem mo_18 : mtOK mt_18 := ⟨all_50 1 il_18 (by decide +kernel) (j_1 dec_18_0), by decide +kernel, by decide +kernel, by decide +kernel⟩
set_option maxRecDepth 20000 in
theorem cw_19 : mtCW mt_19 := t_ALL (t_c3 (List.mem_of_getElem? (i := 25) rfl)) rfl
theorem mo_19 : mtOK mt_19 := ⟨all_50 1 il_19 (by decide +kernel) (j_1 dec_19_0), by decide +kernel, by decide +kernel, by decide +kernel⟩
set_option maxRecDepth 20000 in
theorem cw_20 : mtCW mt_20 := t_ALL (t_c3 (List.mem_of_getElem? (i := 22) rfl)) rfl
theorem mo_20 : mtOK mt_20 := ⟨all_50 1 il_20 (by decide +kernel) (j_1 dec_20_0), by decide +kernel, by decide +kernel, by decide +kernel⟩
set_option maxRecDepth 20000 in
theorem cw_21 : mtCW mt_21 := t_ALL (t_c3 (List.mem_of_getElem? (i := 46) rfl)) rfl
theorem mo_21 : mtOK mt_21 := ⟨all_50 1 il_21 (by decide +kernel) (j_1 dec_21_0), by decide +kernel, by decide +kernel, by decide +kernel⟩
set_option maxRecDepth 20000 in
theorem cw_22 : mtCW mt_22 := t_ALL (t_c3 (List.mem_of_getElem? (i := 36) rfl)) rfl
theorem mo_22 : mtOK mt_22 := ⟨all_50 1 il_22 (by decide +kernel) (j_1 dec_22_0), by decide +kernel, by decide +kernel, by decide +kernel⟩
set_option maxRecDepth 20000 in
theorem cw_23 : mtCW mt_23 := t_ALL (t_c3 (List.mem_of_getElem? (i := 18) rfl)) rfl
theorem mo_23 : mtOK mt_23 := ⟨all_50 1 il_23 (by decide +kernel) (j_1 dec_23_0), by decide +kernel, by decide +kernel, by decide +kernel⟩
set_option maxRecDepth 20000 in
theorem cw_24 : mtCW mt_24 := t_ALL (t_c3 (List.mem_of_getElem? (i := 54) rfl)) rfl
theorem mo_24 : mtOK mt_24 := ⟨all_50 1 il_24 (by decide +kernel) (j_1 dec_24_0), by decide +kernel, by decide +kernel, by decide +kernel⟩
set_option maxRecDepth 20000 in
theorem cw_25 : mtCW mt_25 := t_ALL (t_c3 (List.mem_of_getElem? (i := 57) rfl)) rfl
theorem mo_25 : mtOK mt_25 := ⟨all_50 1 il_25 (by decide +kernel) (j_1 dec_25_0), by decide +kernel, by decide +kernel, by decide +kernel⟩
set_option maxRecDepth 20000 in
theorem cw_26 : mtCW mt_26 := t_ALL (t_c3 (List.mem_of_getElem? (i := 14) rfl)) rfl
theorem mo_26 : mtOK mt_26 := ⟨all_50 1 il_26 (by decide +kernel) (j_1 dec_26_0), by decide +kernel, by decide +kernel, by decide +kernel⟩
set_option maxRecDepth 20000 in
theorem cw_27 : mtCW mt_27 := t_ALL (t_c3 (List.mem_of_getElem? (i := 11) rfl)) rfl
theorem mo_27 : mtOK mt_27 := ⟨all_50 1 il_27 (by decide +kernel) (j_1 dec_27_0), by decide +kernel, by decide +kernel, by decide +kernel⟩
set_option maxRecDepth 20000 in
theorem cw_28 : mtCW mt_28 := t_ALL (t_c2 (List.mem_of_getElem? (i := 238) rfl)) rfl
theorem mo_28 : mtOK mt_28 := ⟨all_50 1 il_28 (by decide +kernel) (j_1 dec_28_0), by decide +kernel, by decide +kernel, by decide +kernel⟩
set_option maxRecDepth 20000 in
theorem cw_29 : mtCW mt_29 := t_ALL (t_c7 (List.mem_of_getElem? (i := 44) rfl)) rfl
theorem mo_29 : mtOK mt_29 := ⟨all_50 1 il_29 (by decide +kernel) (j_1 dec_29_0), by decide +kernel, by decide +kernel, by decide +kernel⟩
set_option maxRecDepth 20000 in
theorem cw_30 : mtCW mt_30 := t_ALL (t_c7 (List.mem_of_getElem? (i := 41) rfl)) rfl
theorem mo_30 : mtOK mt_30 := ⟨all_50 1 il_30 (by decide +kernel) (j_1 dec_30_0), by decide +kernel, by decide +kernel, by decide +kernel⟩
set_option maxRecDepth 20000 in
theorem cw_31 : mtCW mt_31 := t_ALL (t_c3 (List.mem_of_getElem? (i := 102) rfl)) rfl
theorem mo_31 : mtOK mt_31 := ⟨all_50 1 il_31 (by decide +kernel) (j_1 dec_31_0), by decide +kernel, by decide +kernel, by decide +kernel⟩
set_option maxRecDepth 20000 in
theorem cw_32 : mtCW mt_32 := t_ALL (t_c3 (List.mem_of_getElem? (i := 99) rfl)) rfl
theorem mo_32 : mtOK mt_32 := ⟨all_50 1 il_32 (by decide +kernel) (j_1 dec_32_0), by decide +kernel, by decide +kernel, by decide +kernel⟩
set_option maxRecDepth 20000 in
theorem cw_33 : mtCW mt_33 := t_ALL (t_c3 (List.mem_of_getElem? (i := 122) rfl)) rfl
theorem mo_33 : mtOK mt_33 := ⟨all_50 1 il_33 (by decide +kernel) (j_1 dec_33_0), by decide +kernel, by decide +kernel, by decide +kernel⟩
set_option maxRecDepth 20000 in
theorem cw_34 : mtCW mt_34 := t_ALL (t_c3 (List.mem_of_getElem? (i := 119) rfl)) rfl
theorem mo_34 : mtOK mt_34 := ⟨all_50 1 il_34 (by decide +kernel) (j_1 dec_34_0), by decide +kernel, by decide +kernel, by decide +kernel⟩
set_option maxRecDepth 20000 in
theorem cw_35 : mtCW mt_35 := t_ALL (t_c3 (List.mem_of_getElem? (i := 114) rfl)) rfl
theorem mo_35 : mtOK mt_35 := ⟨all_50 1 il_35 (by decide +kernel) (j_1 dec_35_0), by decide +kernel, by decide +kernel, by decide +kernel⟩
set_option maxRecDepth 20000 in
theorem cw_36 : mtCW mt_36 := t_ALL (t_c3 (List.mem_of_getElem? (i := 148) rfl)) rfl
theorem mo_36 : mtOK mt_36 := ⟨all_50 1 il_36 (by decide +kernel) (j_1 dec_36_0), by decide +kernel, by decide +kernel, by decide +kernel⟩
set_option maxRecDepth 20000 in
theorem cw_37 : mtCW mt_37 := t_ALL (t_c3 (List.mem_of_getElem? (i := 157) rfl)) rfl
theorem mo_37 : mtOK mt_37 := ⟨all_50 1 il_37 (by decide +kernel) (j_1 dec_37_0), by decide +kernel, by decide +kernel, by decide +kernel⟩
set_option maxRecDepth 20000 in
theorem cw_38 : mtCW mt_38 := t_ALL (t_c3 (List.mem_of_getElem? (i := 153) rfl)) rfl
theorem mo_38 : mtOK mt_38 := ⟨all_50 1 il_38 (by decide +kernel) (j_1 dec_38_0), by decide +kernel, by decide +kernel, by decide +kernel⟩
set_option maxRecDepth 20000 in
theorem cw_39 : mtCW mt_39 := t_ALL (t_c3 (List.mem_of_getElem? (i := 163) rfl)) rfl
theorem mo_39 : mtOK mt_39 := ⟨all_50 1 il_39 (by decide +kernel) (j_1 dec_39_0), by decide +kernel, by decide +kernel, by decide +kernel⟩
set_option maxRecDepth 20000 in
theorem cw_40 : mtCW mt_40 := t_ALL (t_c3 (List.mem_of_getElem? (i := 168) rfl)) rfl
theorem mo_40 : mtOK mt_40 := ⟨all_50 1 il_40 (by decide +kernel) (j_1 dec_40_0), by decide +kernel, by decide +kernel, by decide +kernel⟩
set_option maxRecDepth 20000 in
theorem cw_41 : mtCW mt_41 := t_ALL (t_c3 (List.mem_of_getElem? (i := 160) rfl)) rfl
theorem mo_41 : mtOK mt_41 := ⟨all_50 1 il_41 (by decide +kernel) (j_1 dec_41_0), by decide +kernel, by decide +kernel, by decide +kernel⟩
set_option maxRecDepth 20000 in
theorem cw_42 : mtCW mt_42 := t_ALL (t_c3 (List.mem_of_getElem? (i := 144) rfl)) rfl
theorem mo_42 : mtOK mt_42 := ⟨all_50 1 il_42 (by decide +kernel) (j_1 dec_42_0), by decide +kernel, by decide +kernel, by decide +kernel⟩
set_option maxRecDepth 20000 in
theorem cw_43 : mtCW mt_43 := t_ALL (t_c3 (List.mem_of_getElem? (i := 140) rfl)) rfl
theorem mo_43 : mtOK mt_43 := ⟨all_50 1 il_43 (by decide +kernel) (j_1 dec_43_0), by decide +kernel, by decide +kernel, by decide +kernel⟩
set_option maxRecDepth 20000 in
theorem cw_44 : mtCW mt_44 := t_ALL (t_c3 (List.mem_of_getElem? (i := 207) rfl)) rfl
theorem mo_44 : mtOK mt_44 := ⟨all_50 1 il_44 (by decide +kernel) (j_1 dec_44_0), by decide +kernel, by decide +kernel, by decide +kernel⟩
set_option maxRecDepth 20000 in
theorem cw_45 : mtCW mt_45 := t_ALL (t_c3 (List.mem_of_getElem? (i := 211) rfl)) rfl
theorem mo_45 : mtOK mt_45 := ⟨all_50 1 il_45 (by decide +kernel) (j_1 dec_45_0), by decide +kernel, by decide +kernel, by decide +kernel⟩
set_option maxRecDepth 20000 in
theorem cw_46 : mtCW mt_46 := t_ALL (t_c3 (List.mem_of_getElem? (i := 219) rfl)) rfl
theorem mo_46 : mtOK mt_46 := ⟨all_50 1 il_46 (by decide +kernel) (j_1 dec_46_0), by decide +kernel, by decide +kernel, by decide +kernel⟩
set_option maxRecDepth 20000 in
theorem cw_47 : mtCW mt_47 := t_ALL (t_c3 (List.mem_of_getElem? (i := 215) rfl)) rfl
theorem mo_47 : mtOK mt_47 := ⟨all_50 1 il_47 (by decide +kernel) (j_1 dec_47_0), by decide +kernel, by decide +kernel, by decide +kernel⟩
set_option maxRecDepth 20000 in
theorem cw_48 : mtCW mt_48 := t_ALL (t_c3 (List.mem_of_getElem? (i := 223) rfl)) rfl
theorem mo_48 : mtOK mt_48 := ⟨all_50 1 il_48 (by decide +kernel) (j_1 dec_48_0), by decide +kernel, by decide +kernel, by decide +kernel⟩
set_option maxRecDepth 20000 in
theorem cw_49 : mtCW mt_49 := t_ALL (t_c3 (List.mem_of_getElem? (i := 231) rfl)) rfl
theorem mo_49 : mtOK mt_49 := ⟨all_50 1 il_49 (by decide +kernel) (j_1 dec_49_0), by decide +kernel, by decide +kernel, by decide +kernel⟩
set_option maxRecDepth 20000 in
theorem cw_50 : mtCW mt_50 := t_ALL (t_c3 (List.mem_of_getElem? (i := 227) rfl)) rfl
theorem mo_50 : mtOK mt_50 := ⟨all_50 1 il_50 (by decide +kernel) (j_1 dec_50_0), by decide +kernel, by decide +kernel, by decide +kernel⟩
set_option maxRecDepth 20000 in
theorem cw_51 : mtCW mt_51 := t_ALL (t_c3 (List.mem_of_getElem? (i := 135) rfl)) rfl
theorem mo_51 : mtOK mt_51 := ⟨all_50 2 il_51 (by decide +kernel) (j_2 (j_1 dec_51_0) dec_51_50), by decide +kernel, by decide +kernel, by decide +kernel⟩
set_option maxRecDepth 20000 in
theorem cw_52 : mtCW mt_52 := t_ALL (t_c3 (List.mem_of_getElem? (i := 131) rfl)) rfl
theorem mo_52 : mtOK mt_52 := ⟨all_50 1 il_52 (by decide +kernel) (j_1 dec_52_0), by decide +kernel, by decide +kernel, by decide +kernel⟩
set_option maxRecDepth 20000 in
theorem cw_53 : mtCW mt_53 := t_ALL (t_c3 (List.mem_of_getElem? (i := 110) rfl)) rfl
theorem mo_53 : mtOK mt_53 := ⟨all_50 1 il_53 (by decide +kernel) (j_1 dec_53_0), by decide +kernel, by decide +kernel, by decide +kernel⟩
set_option maxRecDepth 20000 in
theorem cw_54 : mtCW mt_54 := t_ALL (t_c3 (List.mem_of_getElem? (i := 238) rfl)) rfl
theorem mo_54 : mtOK mt_54 := ⟨all_50 1 il_54 (by decide +kernel) (j_1 dec_54_0), by decide +kernel, by decide +kernel, by decide +kernel⟩
set_option maxRecDepth 20000 in
theorem cw_55 : mtCW mt_55 := t_ALL (t_c3 (List.mem_of_getElem? (i := 235) rfl)) rfl
theorem mo_55 : mtOK mt_55 := ⟨all_50 1 il_55 (by decide +kernel) (j_1 dec_55_0), by decide +kernel, by decide +kernel, by decide +kernel⟩
set_option maxRecDepth 20000 in
theorem cw_56 : mtCW mt_56 := t_ALL (t_c4 (List.mem_of_getElem? (i := 19) rfl)) rfl
theorem mo_56 : mtOK mt_56 := ⟨all_50 1 il_56 (by decide +kernel) (j_1 dec_56_0), by decide +kernel, by decide +kernel, by decide +kernel⟩
set_option maxRecDepth 20000 in
theorem cw_57 : mtCW mt_57 := t_ALL (t_c4 (List.mem_of_getElem? (i := 35) rfl)) rfl
theorem mo_57 : mtOK mt_57 := ⟨all_50 1 il_57 (by decide +kernel) (j_1 dec_57_0), by decide +kernel, by decide +kernel, by decide +kernel⟩
set_option maxRecDepth 20000 in
theorem cw_58 : mtCW mt_58 := t_ALL (t_c4 (List.mem_of_getElem? (i := 32) rfl)) rfl
theorem mo_58 : mtOK mt_58 := ⟨all_50 1 il_58 (by decide +kernel) (j_1 dec_58_0), by decide +kernel, by decide +kernel, by decide +kernel⟩
set_option maxRecDepth 20000 in
theorem cw_59 : mtCW mt_59 := t_ALL (t_c4 (List.mem_of_getElem? (i := 43) rfl)) rfl
theorem mo_59 : mtOK mt_59 := ⟨all_50 1 il_59 (by decide +kernel) (j_1 dec_59_0), by decide +kernel, by decide +kernel, by decide +kernel⟩
set_option maxRecDepth 20000 in
theorem cw_60 : mtCW mt_60 := t_ALL (t_c4 (List.mem_of_getElem? (i := 39) rfl)) rfl
theorem mo_60 : mtOK mt_60 := ⟨all_50 1 il_60 (by decide +kernel) (j_1 dec_60_0), by decide +kernel, by decide +kernel, by decide +kernel⟩
set_option maxRecDepth 20000 in
theorem cw_61 : mtCW mt_61 := t_ALL (t_c4 (List.mem_of_getElem? (i := 28) rfl)) rfl
theorem mo_61 : mtOK mt_61 := ⟨all_50 1 il_61 (by decide +kernel) (j_1 dec_61_0), by decide +kernel, by decide +kernel, by decide +kernel⟩
set_option maxRecDepth 20000 in
theorem cw_62 : mtCW mt_62 := t_ALL (t_c4 (List.mem_of_getElem? (i := 47) rfl)) rfl
theorem mo_62 : mtOK mt_62 := ⟨all_50 1 il_62 (by decide +kernel) (j_1 dec_62_0), by decide +kernel, by decide +kernel, by decide +kernel⟩
set_option maxRecDepth 20000 in
theorem cw_63 : mtCW mt_63 := t_ALL (t_c4 (List.mem_of_getElem? (i := 60) rfl)) rfl
theorem mo_63 : mtOK mt_63 := ⟨all_50 1 il_63 (by decide +kernel) (j_1 dec_63_0), by decide +kernel, by decide +kernel, by decide +kernel⟩
set_option maxRecDepth 20000 in
theorem cw_64 : mtCW mt_64 := t_ALL (t_c4 (List.mem_of_getElem? (i := 56) rfl)) rfl
theorem mo_64 : mtOK mt_64 := ⟨all_50 1 il_64 (by decide +kernel) (j_1 dec_64_0), by decide +kernel, by decide +kernel, by decide +kernel⟩
set_option maxRecDepth 20000 in
theorem cw_65 : mtCW mt_65 := t_ALL (t_c4 (List.mem_of_getElem? (i := 68) rfl)) rfl
theorem mo_65 : mtOK mt_65 := ⟨all_50 1 il_65 (by decide +kernel) (j_1 dec_65_0), by decide +kernel, by decide +kernel, by decide +kernel⟩
set_option maxRecDepth 20000 in
theorem cw_66 : mtCW mt_66 := t_ALL (t_c4 (List.mem_of_getElem? (i := 73) rfl)) rfl
theorem mo_66 : mtOK mt_66 := ⟨all_50 1 il_66 (by decide +kernel) (j_1 dec_66_0), by decide +kernel, by decide +kernel, by decide +kernel⟩
set_option maxRecDepth 20000 in
theorem cw_67 : mtCW mt_67 := t_ALL (t_c4 (List.mem_of_getElem? (i := 64) rfl)) rfl
theorem mo_67 : mtOK mt_67 := ⟨all_50 1 il_67 (by decide +kernel) (j_1 dec_67_0), by decide +kernel, by decide +kernel, by decide +kernel⟩
set_option maxRecDepth 20000 in
theorem cw_68 : mtCW mt_68 := t_ALL (t_c4 (List.mem_of_getElem? (i := 52) rfl)) rfl
theorem mo_68 : mtOK mt_68 := ⟨all_50 1 il_68 (by decide +kernel) (j_1 dec_68_0), by decide +kernel, by decide +kernel, by decide +kernel⟩
set_option maxRecDepth 20000 in
theorem cw_69 : mtCW mt_69 := t_ALL (t_c4 (List.mem_of_getElem? (i := 24) rfl)) rfl
theorem mo_69 : mtOK mt_69 := ⟨all_50 1 il_69 (by decide +kernel) (j_1 dec_69_0), by decide +kernel, by decide +kernel, by decide +kernel⟩
set_option maxRecDepth 20000 in
theorem cw_70 : mtCW mt_70 := t_ALL (t_c4 (List.mem_of_getElem? (i := 15) rfl)) rfl
theorem mo_70 : mtOK mt_70 := ⟨all_50 2 il_70 (by decide +kernel) (j_2 (j_1 dec_70_0) dec_70_50), by decide +kernel, by decide +kernel, by decide +kernel⟩
set_option maxRecDepth 20000 in
theorem cw_71 : mtCW mt_71 := t_ALL (t_c4 (List.mem_of_getElem? (i := 78) rfl)) rfl
theorem mo_71 : mtOK mt_71 := ⟨all_50 1 il_71 (by decide +kernel) (j_1 dec_71_0), by decide +kernel, by decide +kernel, by decide +kernel⟩
set_option maxRecDepth 20000 in
theorem cw_72 : mtCW mt_72 := t_ALL (t_c3 (List.mem_of_getElem? (i := 106) rfl)) rfl
theorem mo_72 : mtOK mt_72 := ⟨all_50 1 il_72 (by decide +kernel) (j_1 dec_72_0), by decide +kernel, by decide +kernel, by decide +kernel⟩
set_option maxRecDepth 20000 in
theorem cw_73 : mtCW mt_73 := t_ALL (t_c7 (List.mem_of_getElem? (i := 54) rfl)) rfl
theorem mo_73 : mtOK mt_73 := ⟨all_50 1 il_73 (by decide +kernel) (j_1 dec_73_0), by decide +kernel, by decide +kernel, by decide +kernel⟩
set_option maxRecDepth 20000 in
theorem cw_74 : mtCW mt_74 := t_ALL (t_c7 (List.mem_of_getElem? (i := 61) rfl)) rfl
theorem mo_74 : mtOK mt_74 := ⟨all_50 1 il_74 (by decide +kernel) (j_1 dec_74_0), by decide +kernel, by decide +kernel, by decide +kernel⟩
set_option maxRecDepth 20000 in
theorem cw_75 : mtCW mt_75 := t_ALL (t_c7 (List.mem_of_getElem? (i := 65) rfl)) rfl
theorem mo_75 : mtOK mt_75 := ⟨all_50 1 il_75 (by decide +kernel) (j_1 dec_75_0), by decide +kernel, by decide +kernel, by decide +kernel⟩
set_option maxRecDepth 20000 in
theorem cw_76 : mtCW mt_76 := t_ALL (t_c7 (List.mem_of_getElem? (i := 69) rfl)) rfl
theorem mo_76 : mtOK mt_76 := ⟨all_50 2 il_76 (by decide +kernel) (j_2 (j_1 dec_76_0) dec_76_50), by decide +kernel, by decide +kernel, by decide +kernel⟩
set_option maxRecDepth 20000 in
theorem cw_77 : mtCW mt_77 := t_ALL (t_c7 (List.mem_of_getElem? (i := 73) rfl)) rfl
theorem mo_77 : mtOK mt_77 := ⟨all_50 1 il_77 (by decide +kernel) (j_1 dec_77_0), by decide +kernel, by decide +kernel, by decide +kernel⟩
set_option maxRecDepth 20000 in
theorem cw_78 : mtCW mt_78 := t_ALL (t_c7 (List.mem_of_getElem? (i := 58) rfl)) rfl
theorem mo_78 : mtOK mt_78 := ⟨all_50 3 il_78 (by decide +kernel) (j_3 (j_2 (j_1 dec_78_0) dec_78_50) dec_78_100), by decide +kernel, by decide +kernel, by decide +kernel⟩
set_option maxRecDepth 20000 in
theorem cw_79 : mtCW mt_79 := t_ALL (t_c7 (List.mem_of_getElem? (i := 81) rfl)) rfl
theorem mo_79 : mtOK mt_79 := ⟨all_50 3 il_79 (by decide +kernel) (j_3 (j_2 (j_1 dec_79_0) dec_79_50) dec_79_100), by decide +kernel, by decide +kernel, by decide +kernel⟩
set_option maxRecDepth 20000 in
theorem cw_80 : mtCW mt_80 := t_ALL (t_c7 (List.mem_of_getElem? (i := 77) rfl)) rfl
theorem mo_80 : mtOK mt_80 := ⟨all_50 2 il_80 (by decide +kernel) (j_2 (j_1 dec_80_0) dec_80_50), by decide +kernel, by decide +kernel, by decide +kernel⟩
set_option maxRecDepth 20000 in
theorem cw_81 : mtCW mt_81 := t_ALL (t_c7 (List.mem_of_getElem? (i := 50) rfl)) rfl
theorem mo_81 : mtOK mt_81 := ⟨all_50 4 il_81 (by decide +kernel) (j_4 (j_3 (j_2 (j_1 dec_81_0) dec_81_50) dec_81_100) dec_81_150), by decide +kernel, by decide +kernel, by decide +kernel⟩
set_option maxRecDepth 20000 in
theorem cw_82 : mtCW mt_82 := t_ALL (t_c4 (List.mem_of_getElem? (i := 89) rfl)) rfl
theorem mo_82 : mtOK mt_82 := ⟨all_50 1 il_82 (by decide +kernel) (j_1 dec_82_0), by decide +kernel, by decide +kernel, by decide +kernel⟩
set_option maxRecDepth 20000 in
theorem cw_83 : mtCW mt_83 := t_ALL (t_c4 (List.mem_of_getElem? (i := 93) rfl)) rfl
theorem mo_83 : mtOK mt_83 := ⟨all_50 1 il_83 (by decide +kernel) (j_1 dec_83_0), by decide +kernel, by decide +kernel, by decide +kernel⟩
set_option maxRecDepth 20000 in
theorem cw_84 : mtCW mt_84 := t_ALL (t_c4 (List.mem_of_getElem? (i := 84) rfl)) rfl
theorem mo_84 : mtOK mt_84 := ⟨all_50 1 il_84 (by decide +kernel) (j_1 dec_84_0), by decide +kernel, by decide +kernel, by decide +kernel⟩
set_option maxRecDepth 20000 in
theorem cw_85 : mtCW mt_85 := t_ALL (t_c7 (List.mem_of_getElem? (i := 85) rfl)) rfl
theorem mo_85 : mtOK mt_85 := ⟨all_50 2 il_85 (by decide +kernel) (j_2 (j_1 dec_85_0) dec_85_50), by decide +kernel, by decide +kernel, by decide +kernel⟩
set_option maxRecDepth 20000 in
theorem cw_86 : mtCW mt_86 := t_ALL (t_c4 (List.mem_of_getElem? (i := 101) rfl)) rfl
theorem mo_86 : mtOK mt_86 := ⟨all_50 1 il_86 (by decide +kernel) (j_1 dec_86_0), by decide +kernel, by decide +kernel, by decide +kernel⟩
set_option maxRecDepth 20000 in
theorem cw_87 : mtCW mt_87 := t_ALL (t_c4 (List.mem_of_getElem? (i := 97) rfl)) rfl
theorem mo_87 : mtOK mt_87 := ⟨all_50 1 il_87 (by decide +kernel) (j_1 dec_87_0), by decide +kernel, by decide +kernel, by decide +kernel⟩
set_option maxRecDepth 20000 in
theorem cw_88 : mtCW mt_88 := t_ALL (t_c7 (List.mem_of_getElem? (i := 90) rfl)) rfl
theorem mo_88 : mtOK mt_88 := ⟨all_50 1 il_88 (by decide +kernel) (j_1 dec_88_0), by decide +kernel, by decide +kernel, by decide +kernel⟩
set_option maxRecDepth 20000 in
theorem cw_89 : mtCW mt_89 := t_ALL (t_c4 (List.mem_of_getElem? (i := 113) rfl)) rfl
theorem mo_89 : mtOK mt_89 := ⟨all_50 1 il_89 (by decide +kernel) (j_1 dec_89_0), by decide +kernel, by decide +kernel, by decide +kernel⟩
set_option maxRecDepth 20000 in
theorem cw_90 : mtCW mt_90 := t_ALL (t_c4 (List.mem_of_getElem? (i := 121) rfl)) rfl
theorem mo_90 : mtOK mt_90 := ⟨all_50 1 il_90 (by decide +kernel) (j_1 dec_90_0), by decide +kernel, by decide +kernel, by decide +kernel⟩
set_option maxRecDepth 20000 in
theorem cw_91 : mtCW mt_91 := t_ALL (t_c4 (List.mem_of_getElem? (i := 125) rfl)) rfl
theorem mo_91 : mtOK mt_91 := ⟨all_50 1 il_91 (by decide +kernel) (j_1 dec_91_0), by decide +kernel, by decide +kernel, by decide +kernel⟩
set_option maxRecDepth 20000 in
theorem cw_92 : mtCW mt_92 := t_ALL (t_c4 (List.mem_of_getElem? (i := 117) rfl)) rfl
theorem mo_92 : mtOK mt_92 := ⟨all_50 1 il_92 (by decide +kernel) (j_1 dec_92_0), by decide +kernel, by decide +kernel, by decide +kernel⟩
set_option maxRecDepth 20000 in
theorem cw_93 : mtCW mt_93 := t_ALL (t_c4 (List.mem_of_getElem? (i := 109) rfl)) rfl
theorem mo_93 : mtOK mt_93 := ⟨all_50 1 il_93 (by decide +kernel) (j_1 dec_93_0), by decide +kernel, by decide +kernel, by decide +kernel⟩
set_option maxRecDepth 20000 in
theorem cw_94 : mtCW mt_94 := t_ALL (t_c4 (List.mem_of_getElem? (i := 137) rfl)) rfl
theorem mo_94 : mtOK mt_94 := ⟨all_50 1 il_94 (by decide +kernel) (j_1 dec_94_0), by decide +kernel, by decide +kernel, by decide +kernel⟩
set_option maxRecDepth 20000 in
theorem cw_95 : mtCW mt_95 := t_ALL (t_c4 (List.mem_of_getElem? (i := 145) rfl)) rfl
theorem mo_95 : mtOK mt_95 := ⟨all_50 1 il_95 (by decide +kernel) (j_1 dec_95_0), by decide +kernel, by decide +kernel, by decide +kernel⟩
set_option maxRecDepth 20000 in
theorem cw_96 : mtCW mt_96 := t_ALL (t_c4 (List.mem_of_getElem? (i := 141) rfl)) rfl
theorem mo_96 : mtOK mt_96 := ⟨all_50 1 il_96 (by decide +kernel) (j_1 dec_96_0), by decide +kernel, by decide +kernel, by decide +kernel⟩
set_option maxRecDepth 20000 in
theorem cw_97 : mtCW mt_97 := t_ALL (t_c4 (List.mem_of_getElem? (i := 133) rfl)) rfl
theorem mo_97 : mtOK mt_97 := ⟨all_50 1 il_97 (by decide +kernel) (j_1 dec_97_0), by decide +kernel, by decide +kernel, by decide +kernel⟩
set_option maxRecDepth 20000 in
theorem cw_98 : mtCW mt_98 := t_ALL (t_c4 (List.mem_of_getElem? (i := 161) rfl)) rfl
theorem mo_98 : mtOK mt_98 := ⟨all_50 1 il_98 (by decide +kernel) (j_1 dec_98_0), by decide +kernel, by decide +kernel, by decide +kernel⟩
set_option maxRecDepth 20000 in
theorem cw_99 : mtCW mt_99 := t_ALL (t_c4 (List.mem_of_getElem? (i := 165) rfl)) rfl
theorem mo_99 : mtOK mt_99 := ⟨all_50 1 il_99 (by decide +kernel) (j_1 dec_99_0), by decide +kernel, by decide +kernel, by decide +kernel⟩
set_option maxRecDepth 20000 in
theorem cw_100 : mtCW mt_100 := t_ALL (t_c4 (List.mem_of_getElem? (i := 169) rfl)) rfl
theorem mo_100 : mtOK mt_100 := ⟨all_50 1 il_100 (by decide +kernel) (j_1 dec_100_0), by decide +kernel, by decide +kernel, by decide +kernel⟩
set_option maxRecDepth 20000 in
theorem cw_101 : mtCW mt_101 := t_ALL (t_c4 (List.mem_of_getElem? (i := 172) rfl)) rfl
theorem mo_101 : mtOK mt_101 := ⟨all_50 1 il_101 (by decide +kernel) (j_1 dec_101_0), by decide +kernel, by decide +kernel, by decide +kernel⟩
set_option maxRecDepth 20000 in
theorem cw_102 : mtCW mt_102 := t_ALL (t_c4 (List.mem_of_getElem? (i := 157) rfl)) rfl
theorem mo_102 : mtOK mt_102 := ⟨all_50 1 il_102 (by decide +kernel) (j_1 dec_102_0), by decide +kernel, by decide +kernel, by decide +kernel⟩
set_option maxRecDepth 20000 in
theorem cw_103 : mtCW mt_103 := t_ALL (t_c4 (List.mem_of_getElem? (i := 176) rfl)) rfl
theorem mo_103 : mtOK mt_103 := ⟨all_50 2 il_103 (by decide +kernel) (j_2 (j_1 dec_103_0) dec_103_50), by decide +kernel, by decide +kernel, by decide +kernel⟩
set_option maxRecDepth 20000 in
theorem cw_104 : mtCW mt_104 := t_ALL (t_c4 (List.mem_of_getElem? (i := 180) rfl)) rfl
theorem mo_104 : mtOK mt_104 := ⟨all_50 1 il_104 (by decide +kernel) (j_1 dec_104_0), by decide +kernel, by decide +kernel, by decide +kernel⟩
set_option maxRecDepth 20000 in
theorem cw_105 : mtCW mt_105 := t_ALL (t_c4 (List.mem_of_getElem? (i := 184) rfl)) rfl
theorem mo_105 : mtOK mt_105 := ⟨all_50 1 il_105 (by decide +kernel) (j_1 dec_105_0), by decide +kernel, by decide +kernel, by decide +kernel⟩
set_option maxRecDepth 20000 in
theorem cw_106 : mtCW mt_106 := t_ALL (t_c4 (List.mem_of_getElem? (i := 188) rfl)) rfl
theorem mo_106 : mtOK mt_106 := ⟨all_50 1 il_106 (by decide +kernel) (j_1 dec_106_0), by decide +kernel, by decide +kernel, by decide +kernel⟩
set_option maxRecDepth 20000 in
theorem cw_107 : mtCW mt_107 := t_ALL (t_c4 (List.mem_of_getElem? (i := 192) rfl)) rfl
theorem mo_107 : mtOK mt_107 := ⟨all_50 1 il_107 (by decide +kernel) (j_1 dec_107_0), by decide +kernel, by decide +kernel, by decide +kernel⟩
set_option maxRecDepth 20000 in
theorem cw_108 : mtCW mt_108 := t_ALL (t_c4 (List.mem_of_getElem? (i := 197) rfl)) rfl
theorem mo_108 : mtOK mt_108 := ⟨all_50 1 il_108 (by decide +kernel) (j_1 dec_108_0), by decide +kernel, by decide +kernel, by decide +kernel⟩
set_option maxRecDepth 20000 in
theorem cw_109 : mtCW mt_109 := t_ALL (t_c4 (List.mem_of_getElem? (i := 153) rfl)) rfl
theorem mo_109 : mtOK mt_109 := ⟨all_50 2 il_109 (by decide +kernel) (j_2 (j_1 dec_109_0) dec_109_50), by decide +kernel, by decide +kernel, by decide +kernel⟩
set_option maxRecDepth 20000 in
theorem cw_110 : mtCW mt_110 := t_ALL (t_c4 (List.mem_of_getElem? (i := 209) rfl)) rfl
theorem mo_110 : mtOK mt_110 := ⟨all_50 1 il_110 (by decide +kernel) (j_1 dec_110_0), by decide +kernel, by decide +kernel, by decide +kernel⟩
set_option maxRecDepth 20000 in
theorem cw_111 : mtCW mt_111 := t_ALL (t_c4 (List.mem_of_getElem? (i := 205) rfl)) rfl
theorem mo_111 : mtOK mt_111 := ⟨all_50 1 il_111 (by decide +kernel) (j_1 dec_111_0), by decide +kernel, by decide +kernel, by decide +kernel⟩
set_option maxRecDepth 20000 in
theorem cw_112 : mtCW mt_112 := t_ALL (t_c4 (List.mem_of_getElem? (i := 213) rfl)) rfl
theorem mo_112 : mtOK mt_112 := ⟨all_50 1 il_112 (by decide +kernel) (j_1 dec_112_0), by decide +kernel, by decide +kernel, by decide +kernel⟩
set_option maxRecDepth 20000 in
theorem cw_113 : mtCW mt_113 := t_ALL (t_c4 (List.mem_of_getElem? (i := 201) rfl)) rfl
theorem mo_113 : mtOK mt_113 := ⟨all_50 1 il_113 (by decide +kernel) (j_1 dec_113_0), by decide +kernel, by decide +kernel, by decide +kernel⟩
set_option maxRecDepth 20000 in
theorem cw_114 : mtCW mt_114 := t_ALL (t_c4 (List.mem_of_getElem? (i := 217) rfl)) rfl
theorem mo_114 : mtOK mt_114 := ⟨all_50 1 il_114 (by decide +kernel) (j_1 dec_114_0), by decide +kernel, by decide +kernel, by decide +kernel⟩
set_option maxRecDepth 20000 in
theorem cw_115 : mtCW mt_115 := t_ALL (t_c4 (List.mem_of_getElem? (i := 230) rfl)) rfl
theorem mo_115 : mtOK mt_115 := ⟨all_50 1 il_115 (by decide +kernel) (j_1 dec_115_0), by decide +kernel, by decide +kernel, by decide +kernel⟩
set_option maxRecDepth 20000 in
theorem cw_116 : mtCW mt_116 := t_ALL (t_c4 (List.mem_of_getElem? (i := 226) rfl)) rfl
theorem mo_116 : mtOK mt_116 := ⟨all_50 2 il_116 (by decide +kernel) (j_2 (j_1 dec_116_0) dec_116_50), by decide +kernel, by decide +kernel, by decide +kernel⟩
set_option maxRecDepth 20000 in
theorem cw_117 : mtCW mt_117 := t_ALL (t_c4 (List.mem_of_getElem? (i := 234) rfl)) rfl
theorem mo_117 : mtOK mt_117 := ⟨all_50 1 il_117 (by decide +kernel) (j_1 dec_117_0), by decide +kernel, by decide +kernel, by decide +kernel⟩
set_option maxRecDepth 20000 in
theorem cw_118 : mtCW mt_118 := t_ALL (t_c4 (List.mem_of_getElem? (i := 238) rfl)) rfl
theorem mo_118 : mtOK mt_118 := ⟨all_50 1 il_118 (by decide +kernel) (j_1 dec_118_0), by decide +kernel, by decide +kernel, by decide +kernel⟩
set_option maxRecDepth 20000 in
theorem cw_119 : mtCW mt_119 := t_ALL (t_c5 (List.mem_of_getElem? (i := 12) rfl)) rfl
theorem mo_119 : mtOK mt_119 := ⟨all_50 1 il_119 (by decide +kernel) (j_1 dec_119_0), by decide +kernel, by decide +kernel, by decide +kernel⟩
set_option maxRecDepth 20000 in
theorem cw_120 : mtCW mt_120 := t_ALL (t_c5 (List.mem_of_getElem? (i := 7) rfl)) rfl
theorem mo_120 : mtOK mt_120 := ⟨all_50 1 il_120 (by decide +kernel) (j_1 dec_120_0), by decide +kernel, by decide +kernel, by decide +kernel⟩
set_option maxRecDepth 20000 in
theorem cw_121 : mtCW mt_121 := t_ALL (t_c5 (List.mem_of_getElem? (i := 3) rfl)) rfl
theorem mo_121 : mtOK mt_121 := ⟨all_50 1 il_121 (by decide +kernel) (j_1 dec_121_0), by decide +kernel, by decide +kernel, by decide +kernel⟩
set_option maxRecDepth 20000 in
theorem cw_122 : mtCW mt_122 := t_ALL (t_c5 (List.mem_of_getElem? (i := 22) rfl)) rfl
theorem mo_122 : mtOK mt_122 := ⟨all_50 1 il_122 (by decide +kernel) (j_1 dec_122_0), by decide +kernel, by decide +kernel, by decide +kernel⟩
set_option maxRecDepth 20000 in
theorem cw_123 : mtCW mt_123 := t_ALL (t_c5 (List.mem_of_getElem? (i := 16) rfl)) rfl
theorem mo_123 : mtOK mt_123 := ⟨all_50 1 il_123 (by decide +kernel) (j_1 dec_123_0), by decide +kernel, by decide +kernel, by decide +kernel⟩
set_option maxRecDepth 20000 in
theorem cw_124 : mtCW mt_124 := t_ALL (t_c5 (List.mem_of_getElem? (i := 36) rfl)) rfl
theorem mo_124 : mtOK mt_124 := ⟨all_50 1 il_124 (by decide +kernel) (j_1 dec_124_0), by decide +kernel, by decide +kernel, by decide +kernel⟩
set_option maxRecDepth 20000 in
theorem cw_125 : mtCW mt_125 := t_ALL (t_c5 (List.mem_of_getElem? (i := 45) rfl)) rfl
theorem mo_125 : mtOK mt_125 := ⟨all_50 1 il_125 (by decide +kernel) (j_1 dec_125_0), by decide +kernel, by decide +kernel, by decide +kernel⟩
set_option maxRecDepth 20000 in
theorem cw_126 : mtCW mt_126 := t_ALL (t_c5 (List.mem_of_getElem? (i := 49) rfl)) rfl
theorem mo_126 : mtOK mt_126 := ⟨all_50 1 il_126 (by decide +kernel) (j_1 dec_126_0), by decide +kernel, by decide +kernel, by decide +kernel⟩
set_option maxRecDepth 20000 in
theorem cw_127 : mtCW mt_127 := t_ALL (t_c5 (List.mem_of_getElem? (i := 53) rfl)) rfl
theorem mo_127 : mtOK mt_127 := ⟨all_50 1 il_127 (by decide +kernel) (j_1 dec_127_0), by decide +kernel, by decide +kernel, by decide +kernel⟩
set_option maxRecDepth 20000 in
theorem cw_128 : mtCW mt_128 := t_ALL (t_c5 (List.mem_of_getElem? (i := 57) rfl)) rfl
theorem mo_128 : mtOK mt_128 := ⟨all_50 1 il_128 (by decide +kernel) (j_1 dec_128_0), by decide +kernel, by decide +kernel, by decide +kernel⟩
set_option maxRecDepth 20000 in
theorem cw_129 : mtCW mt_129 := t_ALL (t_c5 (List.mem_of_getElem? (i := 41) rfl)) rfl
theorem mo_129 : mtOK mt_129 := ⟨all_50 1 il_129 (by decide +kernel) (j_1 dec_129_0), by decide +kernel, by decide +kernel, by decide +kernel⟩
set_option maxRecDepth 20000 in
theorem cw_130 : mtCW mt_130 := t_ALL (t_c5 (List.mem_of_getElem? (i := 61) rfl)) rfl
theorem mo_130 : mtOK mt_130 := ⟨all_50 1 il_130 (by decide +kernel) (j_1 dec_130_0), by decide +kernel, by decide +kernel, by decide +kernel⟩
set_option maxRecDepth 20000 in
theorem cw_131 : mtCW mt_131 := t_ALL (t_c5 (List.mem_of_getElem? (i := 31) rfl)) rfl
theorem mo_131 : mtOK mt_131 := ⟨all_50 3 il_131 (by decide +kernel) (j_3 (j_2 (j_1 dec_131_0) dec_131_50) dec_131_100), by decide +kernel, by decide +kernel, by decide +kernel⟩
set_option maxRecDepth 20000 in
theorem cw_132 : mtCW mt_132 := t_ALL (t_c4 (List.mem_of_getElem? (i := 222) rfl)) rfl
theorem mo_132 : mtOK mt_132 := ⟨all_50 3 il_132 (by decide +kernel) (j_3 (j_2 (j_1 dec_132_0) dec_132_50) dec_132_100), by decide +kernel, by decide +kernel, by decide +kernel⟩
set_option maxRecDepth 20000 in
theorem cw_133 : mtCW mt_133 := t_ALL (t_c4 (List.mem_of_getElem? (i := 149) rfl)) rfl
theorem mo_133 : mtOK mt_133 := ⟨all_50 2 il_133 (by decide +kernel) (j_2 (j_1 dec_133_0) dec_133_50), by decide +kernel, by decide +kernel, by decide +kernel⟩
set_option maxRecDepth 20000 in
theorem cw_134 : mtCW mt_134 := t_ALL (t_c5 (List.mem_of_getElem? (i := 69) rfl)) rfl
theorem mo_134 : mtOK mt_134 := ⟨all_50 1 il_134 (by decide +kernel) (j_1 dec_134_0), by decide +kernel, by decide +kernel, by decide +kernel⟩
set_option maxRecDepth 20000 in
theorem cw_135 : mtCW mt_135 := t_ALL (t_c5 (List.mem_of_getElem? (i := 65) rfl)) rfl
theorem mo_135 : mtOK mt_135 := ⟨all_50 1 il_135 (by decide +kernel) (j_1 dec_135_0), by decide +kernel, by decide +kernel, by decide +kernel⟩
set_option maxRecDepth 20000 in
theorem cw_136 : mtCW mt_136 := t_ALL (t_c4 (List.mem_of_getElem? (i := 129) rfl)) rfl
theorem mo_136 : mtOK mt_136 := ⟨all_50 2 il_136 (by decide +kernel) (j_2 (j_1 dec_136_0) dec_136_50), by decide +kernel, by decide +kernel, by decide +kernel⟩
set_option maxRecDepth 20000 in
theorem cw_137 : mtCW mt_137 := t_ALL (t_c4 (List.mem_of_getElem? (i := 105) rfl)) rfl
theorem mo_137 : mtOK mt_137 := ⟨all_50 1 il_137 (by decide +kernel) (j_1 dec_137_0), by decide +kernel, by decide +kernel, by decide +kernel⟩
set_option maxRecDepth 20000 in
theorem cw_138 : mtCW mt_138 := t_ALL (t_c7 (List.mem_of_getElem? (i := 108) rfl)) rfl
theorem mo_138 : mtOK mt_138 := ⟨all_50 1 il_138 (by decide +kernel) (j_1 dec_138_0), by decide +kernel, by decide +kernel, by decide +kernel⟩
set_option maxRecDepth 20000 in
theorem cw_139 : mtCW mt_139 := t_ALL (t_c7 (List.mem_of_getElem? (i := 116) rfl)) rfl
theorem mo_139 : mtOK mt_139 := ⟨all_50 2 il_139 (by decide +kernel) (j_2 (j_1 dec_139_0) dec_139_50), by decide +kernel, by decide +kernel, by decide +kernel⟩
set_option maxRecDepth 20000 in
theorem cw_140 : mtCW mt_140 := t_ALL (t_c7 (List.mem_of_getElem? (i := 120) rfl)) rfl
theorem mo_140 : mtOK mt_140 := ⟨all_50 1 il_140 (by decide +kernel) (j_1 dec_140_0), by decide +kernel, by decide +kernel, by decide +kernel⟩
set_option maxRecDepth 20000 in
theorem cw_141 : mtCW mt_141 := t_ALL (t_c7 (List.mem_of_getElem? (i := 131) rfl)) rfl
theorem mo_141 : mtOK mt_141 := ⟨all_50 1 il_141 (by decide +kernel) (j_1 dec_141_0), by decide +kernel, by decide +kernel, by decide +kernel⟩
set_option maxRecDepth 20000 in
theorem cw_142 : mtCW mt_142 := t_ALL (t_c7 (List.mem_of_getElem? (i := 139) rfl)) rfl
theorem mo_142 : mtOK mt_142 := ⟨all_50 1 il_142 (by decide +kernel) (j_1 dec_142_0), by decide +kernel, by decide +kernel, by decide +kernel⟩
set_option maxRecDepth 20000 in
theorem cw_143 : mtCW mt_143 := t_ALL (t_c7 (List.mem_of_getElem? (i := 143) rfl)) rfl
theorem mo_143 : mtOK mt_143 := ⟨all_50 1 il_143 (by decide +kernel) (j_1 dec_143_0), by decide +kernel, by decide +kernel, by decide +kernel⟩
set_option maxRecDepth 20000 in
theorem cw_144 : mtCW mt_144 := t_ALL (t_c7 (List.mem_of_getElem? (i := 135) rfl)) rfl
theorem mo_144 : mtOK mt_144 := ⟨all_50 1 il_144 (by decide +kernel) (j_1 dec_144_0), by decide +kernel, by decide +kernel, by decide +kernel⟩
set_option maxRecDepth 20000 in
theorem cw_145 : mtCW mt_145 := t_ALL (t_c7 (List.mem_of_getElem? (i := 146) rfl)) rfl
theorem mo_145 : mtOK mt_145 := ⟨all_50 1 il_145 (by decide +kernel) (j_1 dec_145_0), by decide +kernel, by decide +kernel, by decide +kernel⟩
set_option maxRecDepth 20000 in
theorem cw_146 : mtCW mt_146 := t_ALL (t_c7 (List.mem_of_getElem? (i := 150) rfl)) rfl
theorem mo_146 : mtOK mt_146 := ⟨all_50 1 il_146 (by decide +kernel) (j_1 dec_146_0), by decide +kernel, by decide +kernel, by decide +kernel⟩
set_option maxRecDepth 20000 in
theorem cw_147 : mtCW mt_147 := t_ALL (t_c7 (List.mem_of_getElem? (i := 154) rfl)) rfl
theorem mo_147 : mtOK mt_147 := ⟨all_50 2 il_147 (by decide +kernel) (j_2 (j_1 dec_147_0) dec_147_50), by decide +kernel, by decide +kernel, by decide +kernel⟩
set_option maxRecDepth 20000 in
theorem cw_148 : mtCW mt_148 := t_ALL (t_c7 (List.mem_of_getElem? (i := 162) rfl)) rfl
theorem mo_148 : mtOK mt_148 := ⟨all_50 1 il_148 (by decide +kernel) (j_1 dec_148_0), by decide +kernel, by decide +kernel, by decide +kernel⟩
set_option maxRecDepth 20000 in
theorem cw_149 : mtCW mt_149 := t_ALL (t_c7 (List.mem_of_getElem? (i := 158) rfl)) rfl
theorem mo_149 : mtOK mt_149 := ⟨all_50 1 il_149 (by decide +kernel) (j_1 dec_149_0), by decide +kernel, by decide +kernel, by decide +kernel⟩
set_option maxRecDepth 20000 in
theorem cw_150 : mtCW mt_150 := t_ALL (t_c7 (List.mem_of_getElem? (i := 166) rfl)) rfl
theorem mo_150 : mtOK mt_150 := ⟨all_50 1 il_150 (by decide +kernel) (j_1 dec_150_0), by decide +kernel, by decide +kernel, by decide +kernel⟩
set_option maxRecDepth 20000 in
theorem cw_151 : mtCW mt_151 := t_ALL (t_c7 (List.mem_of_getElem? (i := 128) rfl)) rfl
theorem mo_151 : mtOK mt_151 := ⟨all_50 4 il_151 (by decide +kernel) (j_4 (j_3 (j_2 (j_1 dec_151_0) dec_151_50) dec_151_100) dec_151_150), by decide +kernel, by decide +kernel, by decide +kernel⟩
set_option maxRecDepth 20000 in
theorem cw_152 : mtCW mt_152 := t_ALL (t_c7 (List.mem_of_getElem? (i := 174) rfl)) rfl
theorem mo_152 : mtOK mt_152 := ⟨all_50 2 il_152 (by decide +kernel) (j_2 (j_1 dec_152_0) dec_152_50), by decide +kernel, by decide +kernel, by decide +kernel⟩
set_option maxRecDepth 20000 in
theorem cw_153 : mtCW mt_153 := t_ALL (t_c7 (List.mem_of_getElem? (i := 178) rfl)) rfl
theorem mo_153 : mtOK mt_153 := ⟨all_50 2 il_153 (by decide +kernel) (j_2 (j_1 dec_153_0) dec_153_50), by decide +kernel, by decide +kernel, by decide +kernel⟩
set_option maxRecDepth 20000 in
theorem cw_154 : mtCW mt_154 := t_ALL (t_c7 (List.mem_of_getElem? (i := 182) rfl)) rfl
theorem mo_154 : mtOK mt_154 := ⟨all_50 3 il_154 (by decide +kernel) (j_3 (j_2 (j_1 dec_154_0) dec_154_50) dec_154_100), by decide +kernel, by decide +kernel, by decide +kernel⟩
set_option maxRecDepth 20000 in
theorem cw_155 : mtCW mt_155 := t_ALL (t_c7 (List.mem_of_getElem? (i := 190) rfl)) rfl
theorem mo_155 : mtOK mt_155 := ⟨all_50 2 il_155 (by decide +kernel) (j_2 (j_1 dec_155_0) dec_155_50), by decide +kernel, by decide +kernel, by decide +kernel⟩
set_option maxRecDepth 20000 in
theorem cw_156 : mtCW mt_156 := t_ALL (t_c7 (List.mem_of_getElem? (i := 194) rfl)) rfl
theorem mo_156 : mtOK mt_156 := ⟨all_50 2 il_156 (by decide +kernel) (j_2 (j_1 dec_156_0) dec_156_50), by decide +kernel, by decide +kernel, by decide +kernel⟩
set_option maxRecDepth 20000 in
theorem cw_157 : mtCW mt_157 := t_ALL (t_c7 (List.mem_of_getElem? (i := 186) rfl)) rfl
theorem mo_157 : mtOK mt_157 := ⟨all_50 2 il_157 (by decide +kernel) (j_2 (j_1 dec_157_0) dec_157_50), by decide +kernel, by decide +kernel, by decide +kernel⟩
set_option maxRecDepth 20000 in
theorem cw_158 : mtCW mt_158 := t_ALL (t_c7 (List.mem_of_getElem? (i := 206) rfl)) rfl
theorem mo_158 : mtOK mt_158 := ⟨all_50 1 il_158 (by decide +kernel) (j_1 dec_158_0), by decide +kernel, by decide +kernel, by decide +kernel⟩
set_option maxRecDepth 20000 in
theorem cw_159 : mtCW mt_159 := t_ALL (t_c7 (List.mem_of_getElem? (i := 209) rfl)) rfl
theorem mo_159 : mtOK mt_159 := ⟨all_50 1 il_159 (by decide +kernel) (j_1 dec_159_0), by decide +kernel, by decide +kernel, by decide +kernel⟩
set_option maxRecDepth 20000 in
theorem cw_160 : mtCW mt_160 := t_ALL (t_c7 (List.mem_of_getElem? (i := 202) rfl)) rfl
theorem mo_160 : mtOK mt_160 := ⟨all_50 4 il_160 (by decide +kernel) (j_4 (j_3 (j_2 (j_1 dec_160_0) dec_160_50) dec_160_100) dec_160_150), by decide +kernel, by decide +kernel, by decide +kernel⟩
set_option maxRecDepth 20000 in
theorem cw_161 : mtCW mt_161 := t_ALL (t_c7 (List.mem_of_getElem? (i := 198) rfl)) rfl
theorem mo_161 : mtOK mt_161 := ⟨all_50 2 il_161 (by decide +kernel) (j_2 (j_1 dec_161_0) dec_161_50), by decide +kernel, by decide +kernel, by decide +kernel⟩
set_option maxRecDepth 20000 in
theorem cw_162 : mtCW mt_162 := t_ALL (t_c7 (List.mem_of_getElem? (i := 170) rfl)) rfl
theorem mo_162 : mtOK mt_162 := ⟨all_50 4 il_162 (by decide +kernel) (j_4 (j_3 (j_2 (j_1 dec_162_0) dec_162_50) dec_162_100) dec_162_150), by decide +kernel, by decide +kernel, by decide +kernel⟩
set_option maxRecDepth 20000 in
theorem cw_163 : mtCW mt_163 := t_ALL (t_c7 (List.mem_of_getElem? (i := 124) rfl)) rfl
theorem mo_163 : mtOK mt_163 := ⟨all_50 2 il_163 (by decide +kernel) (j_2 (j_1 dec_163_0) dec_163_50), by decide +kernel, by decide +kernel, by decide +kernel⟩
set_option maxRecDepth 20000 in
theorem cw_164 : mtCW mt_164 := t_ALL (t_c7 (List.mem_of_getElem? (i := 112) rfl)) rfl
theorem mo_164 : mtOK mt_164 := ⟨all_50 2 il_164 (by decide +kernel) (j_2 (j_1 dec_164_0) dec_164_50), by decide +kernel, by decide +kernel, by decide +kernel⟩
set_option maxRecDepth 20000 in
theorem cw_165 : mtCW mt_165 := t_ALL (t_c7 (List.mem_of_getElem? (i := 104) rfl)) rfl
theorem mo_165 : mtOK mt_165 := ⟨all_50 1 il_165 (by decide +kernel) (j_1 dec_165_0), by decide +kernel, by decide +kernel, by decide +kernel⟩
set_option maxRecDepth 20000 in
theorem cw_166 : mtCW mt_166 := t_ALL (t_c5 (List.mem_of_getElem? (i := 73) rfl)) rfl
theorem mo_166 : mtOK mt_166 := ⟨all_50 1 il_166 (by decide +kernel) (j_1 dec_166_0), by decide +kernel, by decide +kernel, by decide +kernel⟩
set_option maxRecDepth 20000 in
theorem cw_167 : mtCW mt_167 := t_ALL (t_c7 (List.mem_of_getElem? (i := 213) rfl)) rfl
theorem mo_167 : mtOK mt_167 := ⟨all_50 1 il_167 (by decide +kernel) (j_1 dec_167_0), by decide +kernel, by decide +kernel, by decide +kernel⟩
set_option maxRecDepth 20000 in
theorem cw_168 : mtCW mt_168 := t_ALL (t_c5 (List.mem_of_getElem? (i := 82) rfl)) rfl
theorem mo_168 : mtOK mt_168 := ⟨all_50 1 il_168 (by decide +kernel) (j_1 dec_168_0), by decide +kernel, by decide +kernel, by decide +kernel⟩
set_option maxRecDepth 20000 in
theorem cw_169 : mtCW mt_169 := t_ALL (t_c5 (List.mem_of_getElem? (i := 77) rfl)) rfl
theorem mo_169 : mtOK mt_169 := ⟨all_50 1 il_169 (by decide +kernel) (j_1 dec_169_0), by decide +kernel, by decide +kernel, by decide +kernel⟩
set_option maxRecDepth 20000 in
theorem cw_170 : mtCW mt_170 := t_ALL (t_c7 (List.mem_of_getElem? (i := 217) rfl)) rfl
theorem mo_170 : mtOK mt_170 := ⟨all_50 2 il_170 (by decide +kernel) (j_2 (j_1 dec_170_0) dec_170_50), by decide +kernel, by decide +kernel, by decide +kernel⟩
set_option maxRecDepth 20000 in
theorem cw_171 : mtCW mt_171 := t_ALL (t_c5 (List.mem_of_getElem? (i := 90) rfl)) rfl
theorem mo_171 : mtOK mt_171 := ⟨all_50 1 il_171 (by decide +kernel) (j_1 dec_171_0), by decide +kernel, by decide +kernel, by decide +kernel⟩
set_option maxRecDepth 20000 in
theorem cw_172 : mtCW mt_172 := t_ALL (t_c5 (List.mem_of_getElem? (i := 86) rfl)) rfl
theorem mo_172 : mtOK mt_172 := ⟨all_50 1 il_172 (by decide +kernel) (j_1 dec_172_0), by decide +kernel, by decide +kernel, by decide +kernel⟩
set_option maxRecDepth 20000 in
theorem cw_173 : mtCW mt_173 := t_ALL (t_c7 (List.mem_of_getElem? (i := 222) rfl)) rfl
theorem mo_173 : mtOK mt_173 := ⟨all_50 1 il_173 (by decide +kernel) (j_1 dec_173_0), by decide +kernel, by decide +kernel, by decide +kernel⟩
set_option maxRecDepth 20000 in
theorem cw_174 : mtCW mt_174 := t_ALL (t_c5 (List.mem_of_getElem? (i := 105) rfl)) rfl
theorem mo_174 : mtOK mt_174 := ⟨all_50 1 il_174 (by decide +kernel) (j_1 dec_174_0), by decide +kernel, by decide +kernel, by decide +kernel⟩
set_option maxRecDepth 20000 in
theorem cw_175 : mtCW mt_175 := t_ALL (t_c5 (List.mem_of_getElem? (i := 100) rfl)) rfl
theorem mo_175 : mtOK mt_175 := ⟨all_50 1 il_175 (by decide +kernel) (j_1 dec_175_0), by decide +kernel, by decide +kernel, by decide +kernel⟩
set_option maxRecDepth 20000 in
theorem cw_176 : mtCW mt_176 := t_ALL (t_c5 (List.mem_of_getElem? (i := 94) rfl)) rfl
theorem mo_176 : mtOK mt_176 := ⟨all_50 1 il_176 (by decide +kernel) (j_1 dec_176_0), by decide +kernel, by decide +kernel, by decide +kernel⟩
set_option maxRecDepth 20000 in
theorem cw_177 : mtCW mt_177 := t_ALL (t_c7 (List.mem_of_getElem? (i := 230) rfl)) rfl
theorem mo_177 : mtOK mt_177 := ⟨all_50 1 il_177 (by decide +kernel) (j_1 dec_177_0), by decide +kernel, by decide +kernel, by decide +kernel⟩
set_option maxRecDepth 20000 in
theorem cw_178 : mtCW mt_178 := t_ALL (t_c7 (List.mem_of_getElem? (i := 226) rfl)) rfl
theorem mo_178 : mtOK mt_178 := ⟨all_50 2 il_178 (by decide +kernel) (j_2 (j_1 dec_178_0) dec_178_50), by decide +kernel, by decide +kernel, by decide +kernel⟩
set_option maxRecDepth 20000 in
theorem cw_179 : mtCW mt_179 := t_ALL (t_c5 (List.mem_of_getElem? (i := 114) rfl)) rfl
theorem mo_179 : mtOK mt_179 := ⟨all_50 1 il_179 (by decide +kernel) (j_1 dec_179_0), by decide +kernel, by decide +kernel, by decide +kernel⟩
set_option maxRecDepth 20000 in
theorem cw_180 : mtCW mt_180 := t_ALL (t_c5 (List.mem_of_getElem? (i := 119) rfl)) rfl
theorem mo_180 : mtOK mt_180 := ⟨all_50 1 il_180 (by decide +kernel) (j_1 dec_180_0), by decide +kernel, by decide +kernel, by decide +kernel⟩
set_option maxRecDepth 20000 in
theorem cw_181 : mtCW mt_181 := t_ALL (t_c5 (List.mem_of_getElem? (i := 110) rfl)) rfl
theorem mo_181 : mtOK mt_181 := ⟨all_50 1 il_181 (by decide +kernel) (j_1 dec_181_0), by decide +kernel, by decide +kernel, by decide +kernel⟩
set_option maxRecDepth 20000 in
theorem cw_182 : mtCW mt_182 := t_ALL (t_c7 (List.mem_of_getElem? (i := 238) rfl)) rfl
theorem mo_182 : mtOK mt_182 := ⟨all_50 1 il_182 (by decide +kernel) (j_1 dec_182_0), by decide +kernel, by decide +kernel, by decide +kernel⟩
set_option maxRecDepth 20000 in
theorem cw_183 : mtCW mt_183 := t_ALL (t_c7 (List.mem_of_getElem? (i := 234) rfl)) rfl
theorem mo_183 : mtOK mt_183 := ⟨all_50 2 il_183 (by decide +kernel) (j_2 (j_1 dec_183_0) dec_183_50), by decide +kernel, by decide +kernel, by decide +kernel⟩
set_option maxRecDepth 20000 in
theorem cw_184 : mtCW mt_184 := t_ALL (t_c5 (List.mem_of_getElem? (i := 124) rfl)) rfl
theorem mo_184 : mtOK mt_184 := ⟨all_50 1 il_184 (by decide +kernel) (j_1 dec_184_0), by decide +kernel, by decide +kernel, by decide +kernel⟩
set_option maxRecDepth 20000 in
theorem cw_185 : mtCW mt_185 := t_ALL (t_c8 (List.mem_of_getElem? (i := 2) rfl)) rfl
theorem mo_185 : mtOK mt_185 := ⟨all_50 2 il_185 (by decide +kernel) (j_2 (j_1 dec_185_0) dec_185_50), by decide +kernel, by decide +kernel, by decide +kernel⟩
set_option maxRecDepth 20000 in
theorem cw_186 : mtCW mt_186 := t_ALL (t_c5 (List.mem_of_getElem? (i := 133) rfl)) rfl
theorem mo_186 : mtOK mt_186 := ⟨all_50 1 il_186 (by decide +kernel) (j_1 dec_186_0), by decide +kernel, by decide +kernel, by decide +kernel⟩
set_option maxRecDepth 20000 in
theorem cw_187 : mtCW mt_187 := t_ALL (t_c5 (List.mem_of_getElem? (i := 128) rfl)) rfl
theorem mo_187 : mtOK mt_187 := ⟨all_50 1 il_187 (by decide +kernel) (j_1 dec_187_0), by decide +kernel, by decide +kernel, by decide +kernel⟩
set_option maxRecDepth 20000 in
theorem cw_188 : mtCW mt_188 := t_ALL (t_c8 (List.mem_of_getElem? (i := 10) rfl)) rfl
theorem mo_188 : mtOK mt_188 := ⟨all_50 1 il_188 (by decide +kernel) (j_1 dec_188_0), by decide +kernel, by decide +kernel, by decide +kernel⟩
set_option maxRecDepth 20000 in
theorem cw_189 : mtCW mt_189 := t_ALL (t_c8 (List.mem_of_getElem? (i := 6) rfl)) rfl
theorem mo_189 : mtOK mt_189 := ⟨all_50 2 il_189 (by decide +kernel) (j_2 (j_1 dec_189_0) dec_189_50), by decide +kernel, by decide +kernel, by decide +kernel⟩
set_option maxRecDepth 20000 in
theorem cw_190 : mtCW mt_190 := t_ALL (t_c5 (List.mem_of_getElem? (i := 137) rfl)) rfl
theorem mo_190 : mtOK mt_190 := ⟨all_50 1 il_190 (by decide +kernel) (j_1 dec_190_0), by decide +kernel, by decide +kernel, by decide +kernel⟩
set_option maxRecDepth 20000 in
theorem cw_191 : mtCW mt_191 := t_ALL (t_c8 (List.mem_of_getElem? (i := 14) rfl)) rfl
theorem mo_191 : mtOK mt_191 := ⟨all_50 2 il_191 (by decide +kernel) (j_2 (j_1 dec_191_0) dec_191_50), by decide +kernel, by decide +kernel, by decide +kernel⟩
set_option maxRecDepth 20000 in
theorem cw_192 : mtCW mt_192 := t_ALL (t_c5 (List.mem_of_getElem? (i := 145) rfl)) rfl
theorem mo_192 : mtOK mt_192 := ⟨all_50 1 il_192 (by decide +kernel) (j_1 dec_192_0), by decide +kernel, by decide +kernel, by decide +kernel⟩
set_option maxRecDepth 20000 in
theorem cw_193 : mtCW mt_193 := t_ALL (t_c5 (List.mem_of_getElem? (i := 142) rfl)) rfl
theorem mo_193 : mtOK mt_193 := ⟨all_50 1 il_193 (by decide +kernel) (j_1 dec_193_0), by decide +kernel, by decide +kernel, by decide +kernel⟩
set_option maxRecDepth 20000 in
theorem cw_194 : mtCW mt_194 := t_ALL (t_c8 (List.mem_of_getElem? (i := 22) rfl)) rfl
theorem mo_194 : mtOK mt_194 := ⟨all_50 1 il_194 (by decide +kernel) (j_1 dec_194_0), by decide +kernel, by decide +kernel, by decide +kernel⟩
set_option maxRecDepth 20000 in
theorem cw_195 : mtCW mt_195 := t_ALL (t_c8 (List.mem_of_getElem? (i := 18) rfl)) rfl
theorem mo_195 : mtOK mt_195 := ⟨all_50 1 il_195 (by decide +kernel) (j_1 dec_195_0), by decide +kernel, by decide +kernel, by decide +kernel⟩
set_option maxRecDepth 20000 in
theorem cw_196 : mtCW mt_196 := t_ALL (t_c5 (List.mem_of_getElem? (i := 152) rfl)) rfl
theorem mo_196 : mtOK mt_196 := ⟨all_50 1 il_196 (by decide +kernel) (j_1 dec_196_0), by decide +kernel, by decide +kernel, by decide +kernel⟩
set_option maxRecDepth 20000 in
theorem cw_197 : mtCW mt_197 := t_ALL (t_c8 (List.mem_of_getElem? (i := 26) rfl)) rfl
theorem mo_197 : mtOK mt_197 := ⟨all_50 1 il_197 (by decide +kernel) (j_1 dec_197_0), by decide +kernel, by decide +kernel, by decide +kernel⟩
set_option maxRecDepth 20000 in
theorem cw_198 : mtCW mt_198 := t_ALL (t_c5 (List.mem_of_getElem? (i := 160) rfl)) rfl
theorem mo_198 : mtOK mt_198 := ⟨all_50 1 il_198 (by decide +kernel) (j_1 dec_198_0), by decide +kernel, by decide +kernel, by decide +kernel⟩
set_option maxRecDepth 20000 in
theorem cw_199 : mtCW mt_199 := t_ALL (t_c5 (List.mem_of_getElem? (i := 156) rfl)) rfl
theorem mo_199 : mtOK mt_199 := ⟨all_50 1 il_199 (by decide +kernel) (j_1 dec_199_0), by decide +kernel, by decide +kernel, by decide +kernel⟩
set_option maxRecDepth 20000 in
theorem cw_200 : mtCW mt_200 := t_ALL (t_c7 (List.mem_of_getElem? (i := 98) rfl)) rfl
theorem mo_200 : mtOK mt_200 := ⟨all_50 2 il_200 (by decide +kernel) (j_2 (j_1 dec_200_0) dec_200_50), by decide +kernel, by decide +kernel, by decide +kernel⟩
set_option maxRecDepth 20000 in
theorem cw_201 : mtCW mt_201 := t_ALL (t_c5 (List.mem_of_getElem? (i := 175) rfl)) rfl
theorem mo_201 : mtOK mt_201 := ⟨all_50 1 il_201 (by decide +kernel) (j_1 dec_201_0), by decide +kernel, by decide +kernel, by decide +kernel⟩
set_option maxRecDepth 20000 in
theorem cw_202 : mtCW mt_202 := t_ALL (t_c5 (List.mem_of_getElem? (i := 169) rfl)) rfl
theorem mo_202 : mtOK mt_202 := ⟨all_50 1 il_202 (by decide +kernel) (j_1 dec_202_0), by decide +kernel, by decide +kernel, by decide +kernel⟩
set_option maxRecDepth 20000 in
theorem cw_203 : mtCW mt_203 := t_ALL (t_c5 (List.mem_of_getElem? (i := 165) rfl)) rfl
theorem mo_203 : mtOK mt_203 := ⟨all_50 1 il_203 (by decide +kernel) (j_1 dec_203_0), by decide +kernel, by decide +kernel, by decide +kernel⟩
set_option maxRecDepth 20000 in
theorem cw_204 : mtCW mt_204 := t_ALL (t_c8 (List.mem_of_getElem? (i := 34) rfl)) rfl
theorem mo_204 : mtOK mt_204 := ⟨all_50 3 il_204 (by decide +kernel) (j_3 (j_2 (j_1 dec_204_0) dec_204_50) dec_204_100), by decide +kernel, by decide +kernel, by decide +kernel⟩
set_option maxRecDepth 20000 in
theorem cw_205 : mtCW mt_205 := t_ALL (t_c8 (List.mem_of_getElem? (i := 30) rfl)) rfl
theorem mo_205 : mtOK mt_205 := ⟨all_50 1 il_205 (by decide +kernel) (j_1 dec_205_0), by decide +kernel, by decide +kernel, by decide +kernel⟩
set_option maxRecDepth 20000 in
theorem cw_206 : mtCW mt_206 := t_ALL (t_c5 (List.mem_of_getElem? (i := 189) rfl)) rfl
theorem mo_206 : mtOK mt_206 := ⟨all_50 2 il_206 (by decide +kernel) (j_2 (j_1 dec_206_0) dec_206_50), by decide +kernel, by decide +kernel, by decide +kernel⟩
set_option maxRecDepth 20000 in
theorem cw_207 : mtCW mt_207 := t_ALL (t_c5 (List.mem_of_getElem? (i := 202) rfl)) rfl
theorem mo_207 : mtOK mt_207 := ⟨all_50 1 il_207 (by decide +kernel) (j_1 dec_207_0), by decide +kernel, by decide +kernel, by decide +kernel⟩
set_option maxRecDepth 20000 in
theorem cw_208 : mtCW mt_208 := t_ALL (t_c5 (List.mem_of_getElem? (i := 199) rfl)) rfl
theorem mo_208 : mtOK mt_208 := ⟨all_50 1 il_208 (by decide +kernel) (j_1 dec_208_0), by decide +kernel, by decide +kernel, by decide +kernel⟩
set_option maxRecDepth 20000 in
theorem cw_209 : mtCW mt_209 := t_ALL (t_c5 (List.mem_of_getElem? (i := 185) rfl)) rfl
theorem mo_209 : mtOK mt_209 := ⟨all_50 2 il_209 (by decide +kernel) (j_2 (j_1 dec_209_0) dec_209_50), by decide +kernel, by decide +kernel, by decide +kernel⟩
set_option maxRecDepth 20000 in
theorem cw_210 : mtCW mt_210 := t_ALL (t_c5 (List.mem_of_getElem? (i := 181) rfl)) rfl
theorem mo_210 : mtOK mt_210 := ⟨all_50 1 il_210 (by decide +kernel) (j_1 dec_210_0), by decide +kernel, by decide +kernel, by decide +kernel⟩
set_option maxRecDepth 20000 in
theorem cw_211 : mtCW mt_211 := t_ALL (t_c8 (List.mem_of_getElem? (i := 42) rfl)) rfl
theorem mo_211 : mtOK mt_211 := ⟨all_50 3 il_211 (by decide +kernel) (j_3 (j_2 (j_1 dec_211_0) dec_211_50) dec_211_100), by decide +kernel, by decide +kernel, by decide +kernel⟩
set_option maxRecDepth 20000 in
theorem cw_212 : mtCW mt_212 := t_ALL (t_c8 (List.mem_of_getElem? (i := 38) rfl)) rfl
theorem mo_212 : mtOK mt_212 := ⟨all_50 2 il_212 (by decide +kernel) (j_2 (j_1 dec_212_0) dec_212_50), by decide +kernel, by decide +kernel, by decide +kernel⟩
set_option maxRecDepth 20000 in
theorem cw_213 : mtCW mt_213 := t_ALL (t_c5 (List.mem_of_getElem? (i := 206) rfl)) rfl
theorem mo_213 : mtOK mt_213 := ⟨all_50 1 il_213 (by decide +kernel) (j_1 dec_213_0), by decide +kernel, by decide +kernel, by decide +kernel⟩
set_option maxRecDepth 20000 in
theorem cw_214 : mtCW mt_214 := t_ALL (t_c8 (List.mem_of_getElem? (i := 46) rfl)) rfl
theorem mo_214 : mtOK mt_214 := ⟨all_50 1 il_214 (by decide +kernel) (j_1 dec_214_0), by decide +kernel, by decide +kernel, by decide +kernel⟩
set_option maxRecDepth 20000 in
theorem cw_215 : mtCW mt_215 := t_ALL (t_c5 (List.mem_of_getElem? (i := 223) rfl)) rfl
theorem mo_215 : mtOK mt_215 := ⟨all_50 1 il_215 (by decide +kernel) (j_1 dec_215_0), by decide +kernel, by decide +kernel, by decide +kernel⟩
set_option maxRecDepth 20000 in
theorem cw_216 : mtCW mt_216 := t_ALL (t_c5 (List.mem_of_getElem? (i := 220) rfl)) rfl
theorem mo_216 : mtOK mt_216 := ⟨all_50 1 il_216 (by decide +kernel) (j_1 dec_216_0), by decide +kernel, by decide +kernel, by decide +kernel⟩
set_option maxRecDepth 20000 in
theorem cw_217 : mtCW mt_217 := t_ALL (t_c5 (List.mem_of_getElem? (i := 238) rfl)) rfl
theorem mo_217 : mtOK mt_217 := ⟨all_50 1 il_217 (by decide +kernel) (j_1 dec_217_0), by decide +kernel, by decide +kernel, by decide +kernel⟩
set_option maxRecDepth 20000 in
theorem cw_218 : mtCW mt_218 := t_ALL (t_c6 (List.mem_of_getElem? (i := 1) rfl)) rfl
theorem mo_218 : mtOK mt_218 := ⟨all_50 2 il_218 (by decide +kernel) (j_2 (j_1 dec_218_0) dec_218_50), by decide +kernel, by decide +kernel, by decide +kernel⟩
set_option maxRecDepth 20000 in
theorem cw_219 : mtCW mt_219 := t_ALL (t_c5 (List.mem_of_getElem? (i := 235) rfl)) rfl
theorem mo_219 : mtOK mt_219 := ⟨all_50 1 il_219 (by decide +kernel) (j_1 dec_219_0), by decide +kernel, by decide +kernel, by decide +kernel⟩
set_option maxRecDepth 20000 in
theorem cw_220 : mtCW mt_220 := t_ALL (t_c5 (List.mem_of_getElem? (i := 232) rfl)) rfl
theorem mo_220 : mtOK mt_220 := ⟨all_50 1 il_220 (by decide +kernel) (j_1 dec_220_0), by decide +kernel, by decide +kernel, by decide +kernel⟩
set_option maxRecDepth 20000 in
theorem cw_221 : mtCW mt_221 := t_ALL (t_c5 (List.mem_of_getElem? (i := 214) rfl)) rfl
theorem mo_221 : mtOK mt_221 := ⟨all_50 2 il_221 (by decide +kernel) (j_2 (j_1 dec_221_0) dec_221_50), by decide +kernel, by decide +kernel, by decide +kernel⟩
set_option maxRecDepth 20000 in
theorem cw_222 : mtCW mt_222 := t_ALL (t_c5 (List.mem_of_getElem? (i := 210) rfl)) rfl
theorem mo_222 : mtOK mt_222 := ⟨all_50 2 il_222 (by decide +kernel) (j_2 (j_1 dec_222_0) dec_222_50), by decide +kernel, by decide +kernel, by decide +kernel⟩
set_option maxRecDepth 20000 in
theorem cw_223 : mtCW mt_223 := t_ALL (t_c8 (List.mem_of_getElem? (i := 54) rfl)) rfl
theorem mo_223 : mtOK mt_223 := ⟨all_50 1 il_223 (by decide +kernel) (j_1 dec_223_0), by decide +kernel, by decide +kernel, by decide +kernel⟩
set_option maxRecDepth 20000 in
theorem cw_224 : mtCW mt_224 := t_ALL (t_c8 (List.mem_of_getElem? (i := 58) rfl)) rfl
theorem mo_224 : mtOK mt_224 := ⟨all_50 1 il_224 (by decide +kernel) (j_1 dec_224_0), by decide +kernel, by decide +kernel, by decide +kernel⟩
set_option maxRecDepth 20000 in
theorem cw_225 : mtCW mt_225 := t_ALL (t_c8 (List.mem_of_getElem? (i := 50) rfl)) rfl
theorem mo_225 : mtOK mt_225 := ⟨all_50 3 il_225 (by decide +kernel) (j_3 (j_2 (j_1 dec_225_0) dec_225_50) dec_225_100), by decide +kernel, by decide +kernel, by decide +kernel⟩
set_option maxRecDepth 20000 in
theorem cw_226 : mtCW mt_226 := t_ALL (t_c6 (List.mem_of_getElem? (i := 18) rfl)) rfl
theorem mo_226 : mtOK mt_226 := ⟨all_50 1 il_226 (by decide +kernel) (j_1 dec_226_0), by decide +kernel, by decide +kernel, by decide +kernel⟩
set_option maxRecDepth 20000 in
theorem cw_227 : mtCW mt_227 := t_ALL (t_c8 (List.mem_of_getElem? (i := 62) rfl)) rfl
theorem mo_227 : mtOK mt_227 := ⟨all_50 1 il_227 (by decide +kernel) (j_1 dec_227_0), by decide +kernel, by decide +kernel, by decide +kernel⟩
set_option maxRecDepth 20000 in
theorem cw_228 : mtCW mt_228 := t_ALL (t_c6 (List.mem_of_getElem? (i := 23) rfl)) rfl
theorem mo_228 : mtOK mt_228 := ⟨all_50 1 il_228 (by decide +kernel) (j_1 dec_228_0), by decide +kernel, by decide +kernel, by decide +kernel⟩
set_option maxRecDepth 20000 in
theorem cw_229 : mtCW mt_229 := t_ALL (t_c7 (List.mem_of_getElem? (i := 94) rfl)) rfl
theorem mo_229 : mtOK mt_229 := ⟨all_50 1 il_229 (by decide +kernel) (j_1 dec_229_0), by decide +kernel, by decide +kernel, by decide +kernel⟩
theorem mo_230 : mtOK mt_230 := ⟨all_50 11 il_230 (by decide +kernel) (j_11 (j_10 (j_9 (j_8 (j_7 (j_6 (j_5 (j_4 (j_3 (j_2 (j_1 dec_230_0) dec_230_50) dec_230_100) dec_230_150) dec_230_200) dec_230_250) dec_230_300) dec_230_350) dec_230_400) dec_230_450) dec_230_500), by decide +kernel, by decide +kernel, by decide +kernel⟩
def mtab_0 : List MT := [mt_0, mt_1, mt_2, mt_3, mt_4, mt_5, mt_6, mt_7, mt_8, mt_9, mt_10, mt_11, mt_12, mt_13, mt_14, mt_15]
theorem mtab_0_ok : ∀ q ∈ mtab_0, mtOK q ∧ mtCW q := List.forall_mem_cons.mpr ⟨⟨mo_0, cw_0⟩, List.forall_mem_cons.mpr ⟨⟨mo_1, cw_1⟩, List.forall_mem_cons.mpr ⟨⟨mo_2, cw_2⟩, List.forall_mem_cons.mpr ⟨⟨mo_3, cw_3⟩, List.forall_mem_cons.mpr ⟨⟨mo_4, cw_4⟩, List.forall_mem_cons.mpr ⟨⟨mo_5, cw_5⟩, List.forall_mem_cons.mpr ⟨⟨mo_6, cw_6⟩, List.forall_mem_cons.mpr ⟨⟨mo_7, cw_7⟩, List.forall_mem_cons.mpr ⟨⟨mo_8, cw_8⟩, List.forall_mem_cons.mpr ⟨⟨mo_9, cw_9⟩, List.forall_mem_cons.mpr ⟨⟨mo_10, cw_10⟩, List.forall_mem_cons.mpr ⟨⟨mo_11, cw_11⟩, List.forall_mem_cons.mpr ⟨⟨mo_12, cw_12⟩, List.forall_mem_cons.mpr ⟨⟨mo_13, cw_13⟩, List.forall_mem_cons.mpr ⟨⟨mo_14, cw_14⟩, List.forall_mem_cons.mpr ⟨⟨mo_15, cw_15⟩, fun _ h => absurd h List.not_mem_nil⟩⟩⟩⟩⟩⟩⟩⟩⟩⟩⟩⟩⟩⟩⟩⟩
def mtab_1 : List MT := [mt_16, mt_17, mt_18, mt_19, mt_20, mt_21, mt_22, mt_23, mt_24, mt_25, mt_26, mt_27, mt_28, mt_29, mt_30, mt_31]
theorem mtab_1_ok : ∀ q ∈ mtab_1, mtOK q ∧ mtCW q := List.forall_mem_cons.mpr ⟨⟨mo_16, cw_16⟩, List.forall_mem_cons.mpr ⟨⟨mo_17, cw_17⟩, List.forall_mem_cons.mpr ⟨⟨mo_18, cw_18⟩, List.forall_mem_cons.mpr ⟨⟨mo_19, cw_19⟩, List.forall_mem_cons.mpr ⟨⟨mo_20, cw_20⟩, List.forall_mem_cons.mpr ⟨⟨mo_21, cw_21⟩, List.forall_mem_cons.mpr ⟨⟨mo_22, cw_22⟩, List.forall_mem_cons.mpr ⟨⟨mo_23, cw_23⟩, List.forall_mem_cons.mpr ⟨⟨mo_24, cw_24⟩, List.forall_mem_cons.mpr ⟨⟨mo_25, cw_25⟩, List.forall_mem_cons.mpr ⟨⟨mo_26, cw_26⟩, List.forall_mem_cons.mpr ⟨⟨mo_27, cw_27⟩, List.forall_mem_cons.mpr ⟨⟨mo_28, cw_28⟩, List.forall_mem_cons.mpr ⟨⟨mo_29, cw_29⟩, List.forall_mem_cons.mpr ⟨⟨mo_30, cw_30⟩, List.forall_mem_cons.mpr ⟨⟨mo_31, cw_31⟩, fun _ h => absurd h List.not_mem_nil⟩⟩⟩⟩⟩⟩⟩⟩⟩⟩⟩⟩⟩⟩⟩⟩
def mtab_2 : List MT := [mt_32, mt_33, mt_34, mt_35, mt_36, mt_37, mt_38, mt_39, mt_40, mt_41, mt_42, mt_43, mt_44, mt_45, mt_46, mt_47]
theorem mtab_2_ok : ∀ q ∈ mtab_2, mtOK q ∧ mtCW q := List.forall_mem_cons.mpr ⟨⟨mo_32, cw_32⟩, List.forall_mem_cons.mpr ⟨⟨mo_33, cw_33⟩, List.forall_mem_cons.mpr ⟨⟨mo_34, cw_34⟩, List.forall_mem_cons.mpr ⟨⟨mo_35, cw_35⟩, List.forall_mem_cons.mpr ⟨⟨mo_36, cw_36⟩, List.forall_mem_cons.mpr ⟨⟨mo_37, cw_37⟩, List.forall_mem_cons.mpr ⟨⟨mo_38, cw_38⟩, List.forall_mem_cons.mpr ⟨⟨mo_39, cw_39⟩, List.forall_mem_cons.mpr ⟨⟨mo_40, cw_40⟩, List.forall_mem_cons.mpr ⟨⟨mo_41, cw_41⟩, List.forall_mem_cons.mpr ⟨⟨mo_42, cw_42⟩, List.forall_mem_cons.mpr ⟨⟨mo_43, cw_43⟩, List.forall_mem_cons.mpr ⟨⟨mo_44, cw_44⟩, List.forall_mem_cons.mpr ⟨⟨mo_45, cw_45⟩, List.forall_mem_cons.mpr ⟨⟨mo_46, cw_46⟩, List.forall_mem_cons.mpr ⟨⟨mo_47, cw_47⟩, fun _ h => absurd h List.not_mem_nil⟩⟩⟩⟩⟩⟩⟩⟩⟩⟩⟩⟩⟩⟩⟩⟩
def mtab_3 : List MT := [mt_48, mt_49, mt_50, mt_51, mt_52, mt_53, mt_54, mt_55, mt_56, mt_57, mt_58, mt_59, mt_60, mt_61, mt_62, mt_63]
theorem mtab_3_ok : ∀ q ∈ mtab_3, mtOK q ∧ mtCW q := List.forall_mem_cons.mpr ⟨⟨mo_48, cw_48⟩, List.forall_mem_cons.mpr ⟨⟨mo_49, cw_49⟩, List.forall_mem_cons.mpr ⟨⟨mo_50, cw_50⟩, List.forall_mem_cons.mpr ⟨⟨mo_51, cw_51⟩, List.forall_mem_cons.mpr ⟨⟨mo_52, cw_52⟩, List.forall_mem_cons.mpr ⟨⟨mo_53, cw_53⟩, List.forall_mem_cons.mpr ⟨⟨mo_54, cw_54⟩, List.forall_mem_cons.mpr ⟨⟨mo_55, cw_55⟩, List.forall_mem_cons.mpr ⟨⟨mo_56, cw_56⟩, List.forall_mem_cons.mpr ⟨⟨mo_57, cw_57⟩, List.forall_mem_cons.mpr ⟨⟨mo_58, cw_58⟩, List.forall_mem_cons.mpr ⟨⟨mo_59, cw_59⟩, List.forall_mem_cons.mpr ⟨⟨mo_60, cw_60⟩, List.forall_mem_cons.mpr ⟨⟨mo_61, cw_61⟩, List.forall_mem_cons.mpr ⟨⟨mo_62, cw_62⟩, List.forall_mem_cons.mpr ⟨⟨mo_63, cw_63⟩, fun _ h => absurd h List.not_mem_nil⟩⟩⟩⟩⟩⟩⟩⟩⟩⟩⟩⟩⟩⟩⟩⟩
def mtab_4 : List MT := [mt_64, mt_65, mt_66, mt_67, mt_68, mt_69, mt_70, mt_71, mt_72, mt_73, mt_74, mt_75, mt_76, mt_77, mt_78, mt_79]
theorem mtab_4_ok : ∀ q ∈ mtab_4, mtOK q ∧ mtCW q := List.forall_mem_cons.mpr ⟨⟨mo_64, cw_64⟩, List.forall_mem_cons.mpr ⟨⟨mo_65, cw_65⟩, List.forall_mem_cons.mpr ⟨⟨mo_66, cw_66⟩, List.forall_mem_cons.mpr ⟨⟨mo_67, cw_67⟩, List.forall_mem_cons.mpr ⟨⟨mo_68, cw_68⟩, List.forall_mem_cons.mpr ⟨⟨mo_69, cw_69⟩, List.forall_mem_cons.mpr ⟨⟨mo_70, cw_70⟩, List.forall_mem_cons.mpr ⟨⟨mo_71, cw_71⟩, List.forall_mem_cons.mpr ⟨⟨mo_72, cw_72⟩, List.forall_mem_cons.mpr ⟨⟨mo_73, cw_73⟩, List.forall_mem_cons.mpr ⟨⟨mo_74, cw_74⟩, List.forall_mem_cons.mpr ⟨⟨mo_75, cw_75⟩, List.forall_mem_cons.mpr ⟨⟨mo_76, cw_76⟩, List.forall_mem_cons.mpr ⟨⟨mo_77, cw_77⟩, List.forall_mem_cons.mpr ⟨⟨mo_78, cw_78⟩, List.forall_mem_cons.mpr ⟨⟨mo_79, cw_79⟩, fun _ h => absurd h List.not_mem_nil⟩⟩⟩⟩⟩⟩⟩⟩⟩⟩⟩⟩⟩⟩⟩⟩
def mtab_5 : List MT := [mt_80, mt_81, mt_82, mt_83, mt_84, mt_85, mt_86, mt_87, mt_88, mt_89, mt_90, mt_91, mt_92, mt_93, mt_94, mt_95]
theorem mtab_5_ok : ∀ q ∈ mtab_5, mtOK q ∧ mtCW q := List.forall_mem_cons.mpr ⟨⟨mo_80, cw_80⟩, List.forall_mem_cons.mpr ⟨⟨mo_81, cw_81⟩, List.forall_mem_cons.mpr ⟨⟨mo_82, cw_82⟩, List.forall_mem_cons.mpr ⟨⟨mo_83, cw_83⟩, List.forall_mem_cons.mpr ⟨⟨mo_84, cw_84⟩, List.forall_mem_cons.mpr ⟨⟨mo_85, cw_85⟩, List.forall_mem_cons.mpr ⟨⟨mo_86, cw_86⟩, List.forall_mem_cons.mpr ⟨⟨mo_87, cw_87⟩, List.forall_mem_cons.mpr ⟨⟨mo_88, cw_88⟩, List.forall_mem_cons.mpr ⟨⟨mo_89, cw_89⟩, List.forall_mem_cons.mpr ⟨⟨mo_90, cw_90⟩, List.forall_mem_cons.mpr ⟨⟨mo_91, cw_91⟩, List.forall_mem_cons.mpr ⟨⟨mo_92, cw_92⟩, List.forall_mem_cons.mpr ⟨⟨mo_93, cw_93⟩, List.forall_mem_cons.mpr ⟨⟨mo_94, cw_94⟩, List.forall_mem_cons.mpr ⟨⟨mo_95, cw_95⟩, fun _ h => absurd h List.not_mem_nil⟩⟩⟩⟩⟩⟩⟩⟩⟩⟩⟩⟩⟩⟩⟩⟩
def mtab_6 : List MT := [mt_96, mt_97, mt_98, mt_99, mt_100, mt_101, mt_102, mt_103, mt_104, mt_105, mt_106, mt_107, mt_108, mt_109, mt_110, mt_111]
theorem mtab_6_ok : ∀ q ∈ mtab_6, mtOK q ∧ mtCW q := List.forall_mem_cons.mpr ⟨⟨mo_96, cw_96⟩, List.forall_mem_cons.mpr ⟨⟨mo_97, cw_97⟩, List.forall_mem_cons.mpr ⟨⟨mo_98, cw_98⟩, List.forall_mem_cons.mpr ⟨⟨mo_99, cw_99⟩, List.forall_mem_cons.mpr ⟨⟨mo_100, cw_100⟩, List.forall_mem_cons.mpr ⟨⟨mo_101, cw_101⟩, List.forall_mem_cons.mpr ⟨⟨mo_102, cw_102⟩, List.forall_mem_cons.mpr ⟨⟨mo_103, cw_103⟩, List.forall_mem_cons.mpr ⟨⟨mo_104, cw_104⟩, List.forall_mem_cons.mpr ⟨⟨mo_105, cw_105⟩, List.forall_mem_cons.mpr ⟨⟨mo_106, cw_106⟩, List.forall_mem_cons.mpr ⟨⟨mo_107, cw_107⟩, List.forall_mem_cons.mpr ⟨⟨mo_108, cw_108⟩, List.forall_mem_cons.mpr ⟨⟨mo_109, cw_109⟩, List.forall_mem_cons.mpr ⟨⟨mo_110, cw_110⟩, List.forall_mem_cons.mpr ⟨⟨mo_111, cw_111⟩, fun _ h => absurd h List.not_mem_nil⟩⟩⟩⟩⟩⟩⟩⟩⟩⟩⟩⟩⟩⟩⟩⟩
def mtab_7 : List MT := [mt_112, mt_113, mt_114, mt_115, mt_116, mt_117, mt_118, mt_119, mt_120, mt_121, mt_122, mt_123, mt_124, mt_125, mt_126, mt_127]
theorem mtab_7_ok : ∀ q ∈ mtab_7, mtOK q ∧ mtCW q := List.forall_mem_cons.mpr ⟨⟨mo_112, cw_112⟩, List.forall_mem_cons.mpr ⟨⟨mo_113, cw_113⟩, List.forall_mem_cons.mpr ⟨⟨mo_114, cw_114⟩, List.forall_mem_cons.mpr ⟨⟨mo_115, cw_115⟩, List.forall_mem_cons.mpr ⟨⟨mo_116, cw_116⟩, List.forall_mem_cons.mpr ⟨⟨mo_117, cw_117⟩, List.forall_mem_cons.mpr ⟨⟨mo_118, cw_118⟩, List.forall_mem_cons.mpr ⟨⟨mo_119, cw_119⟩, List.forall_mem_cons.mpr ⟨⟨mo_120, cw_120⟩, List.forall_mem_cons.mpr ⟨⟨mo_121, cw_121⟩, List.forall_mem_cons.mpr ⟨⟨mo_122, cw_122⟩, List.forall_mem_cons.mpr ⟨⟨mo_123, cw_123⟩, List.forall_mem_cons.mpr ⟨⟨mo_124, cw_124⟩, List.forall_mem_cons.mpr ⟨⟨mo_125, cw_125⟩, List.forall_mem_cons.mpr ⟨⟨mo_126, cw_126⟩, List.forall_mem_cons.mpr ⟨⟨mo_127, cw_127⟩, fun _ h => absurd h List.not_mem_nil⟩⟩⟩⟩⟩⟩⟩⟩⟩⟩⟩⟩⟩⟩⟩⟩
def mtab_8 : List MT := [mt_128, mt_129, mt_130, mt_131, mt_132, mt_133, mt_134, mt_135, mt_136, mt_137, mt_138, mt_139, mt_140, mt_141, mt_142, mt_143]
theorem mtab_8_ok : ∀ q ∈ mtab_8, mtOK q ∧ mtCW q := List.forall_mem_cons.mpr ⟨⟨mo_128, cw_128⟩, List.forall_mem_cons.mpr ⟨⟨mo_129, cw_129⟩, List.forall_mem_cons.mpr ⟨⟨mo_130, cw_130⟩, List.forall_mem_cons.mpr ⟨⟨mo_131, cw_131⟩, List.forall_mem_cons.mpr ⟨⟨mo_132, cw_132⟩, List.forall_mem_cons.mpr ⟨⟨mo_133, cw_133⟩, List.forall_mem_cons.mpr ⟨⟨mo_134, cw_134⟩, List.forall_mem_cons.mpr ⟨⟨mo_135, cw_135⟩, List.forall_mem_cons.mpr ⟨⟨mo_136, cw_136⟩, List.forall_mem_cons.mpr ⟨⟨mo_137, cw_137⟩, List.forall_mem_cons.mpr ⟨⟨mo_138, cw_138⟩, List.forall_mem_cons.mpr ⟨⟨mo_139, cw_139⟩, List.forall_mem_cons.mpr ⟨⟨mo_140, cw_140⟩, List.forall_mem_cons.mpr ⟨⟨mo_141, cw_141⟩, List.forall_mem_cons.mpr ⟨⟨mo_142, cw_142⟩, List.forall_mem_cons.mpr ⟨⟨mo_143, cw_143⟩, fun _ h => absurd h List.not_mem_nil⟩⟩⟩⟩⟩⟩⟩⟩⟩⟩⟩⟩⟩⟩⟩⟩
def mtab_9 : List MT := [mt_144, mt_145, mt_146, mt_147, mt_148, mt_149, mt_150, mt_151, mt_152, mt_153, mt_154, mt_155, mt_156, mt_157, mt_158, mt_159]
theorem mtab_9_ok : ∀ q ∈ mtab_9, mtOK q ∧ mtCW q := List.forall_mem_cons.mpr ⟨⟨mo_144, cw_144⟩, List.forall_mem_cons.mpr ⟨⟨mo_145, cw_145⟩, List.forall_mem_cons.mpr ⟨⟨mo_146, cw_146⟩, List.forall_mem_cons.mpr ⟨⟨mo_147, cw_147⟩, List.forall_mem_cons.mpr ⟨⟨mo_148, cw_148⟩, List.forall_mem_cons.mpr ⟨⟨mo_149, cw_149⟩, List.forall_mem_cons.mpr ⟨⟨mo_150, cw_150⟩, List.forall_mem_cons.mpr ⟨⟨mo_151, cw_151⟩, List.forall_mem_cons.mpr ⟨⟨mo_152, cw_152⟩, List.forall_mem_cons.mpr ⟨⟨mo_153, cw_153⟩, List.forall_mem_cons.mpr ⟨⟨mo_154, cw_154⟩, List.forall_mem_cons.mpr ⟨⟨mo_155, cw_155⟩, List.forall_mem_cons.mpr ⟨⟨mo_156, cw_156⟩, List.forall_mem_cons.mpr ⟨⟨mo_157, cw_157⟩, List.forall_mem_cons.mpr ⟨⟨mo_158, cw_158⟩, List.forall_mem_cons.mpr ⟨⟨mo_159, cw_159⟩, fun _ h => absurd h List.not_mem_nil⟩⟩⟩⟩⟩⟩⟩⟩⟩⟩⟩⟩⟩⟩⟩⟩
def mtab_10 : List MT := [mt_160, mt_161, mt_162, mt_163, mt_164, mt_165, mt_166, mt_167, mt_168, mt_169, mt_170, mt_171, mt_172, mt_173, mt_174, mt_175]
theorem mtab_10_ok : ∀ q ∈ mtab_10, mtOK q ∧ mtCW q := List.forall_mem_cons.mpr ⟨⟨mo_160, cw_160⟩, List.forall_mem_cons.mpr ⟨⟨mo_161, cw_161⟩, List.forall_mem_cons.mpr ⟨⟨mo_162, cw_162⟩, List.forall_mem_cons.mpr ⟨⟨mo_163, cw_163⟩, List.forall_mem_cons.mpr ⟨⟨mo_164, cw_164⟩, List.forall_mem_cons.mpr ⟨⟨mo_165, cw_165⟩, List.forall_mem_cons.mpr ⟨⟨mo_166, cw_166⟩, List.forall_mem_cons.mpr ⟨⟨mo_167, cw_167⟩, List.forall_mem_cons.mpr ⟨⟨mo_168, cw_168⟩, List.forall_mem_cons.mpr ⟨⟨mo_169, cw_169⟩, List.forall_mem_cons.mpr ⟨⟨mo_170, cw_170⟩, List.forall_mem_cons.mpr ⟨⟨mo_171, cw_171⟩, List.forall_mem_cons.mpr ⟨⟨mo_172, cw_172⟩, List.forall_mem_cons.mpr ⟨⟨mo_173, cw_173⟩, List.forall_mem_cons.mpr ⟨⟨mo_174, cw_174⟩, List.forall_mem_cons.mpr ⟨⟨mo_175, cw_175⟩, fun _ h => absurd h List.not_mem_nil⟩⟩⟩⟩⟩⟩⟩⟩⟩⟩⟩⟩⟩⟩⟩⟩
def mtab_11 : List MT := [mt_176, mt_177, mt_178, mt_179, mt_180, mt_181, mt_182, mt_183, mt_184, mt_185, mt_186, mt_187, mt_188, mt_189, mt_190, mt_191]
theorem mtab_11_ok : ∀ q ∈ mtab_11, mtOK q ∧ mtCW q := List.forall_mem_cons.mpr ⟨⟨mo_176, cw_176⟩, List.forall_mem_cons.mpr ⟨⟨mo_177, cw_177⟩, List.forall_mem_cons.mpr ⟨⟨mo_178, cw_178⟩, List.forall_mem_cons.mpr ⟨⟨mo_179, cw_179⟩, List.forall_mem_cons.mpr ⟨⟨mo_180, cw_180⟩, List.forall_mem_cons.mpr ⟨⟨mo_181, cw_181⟩, List.forall_mem_cons.mpr ⟨⟨mo_182, cw_182⟩, List.forall_mem_cons.mpr ⟨⟨mo_183, cw_183⟩, List.forall_mem_cons.mpr ⟨⟨mo_184, cw_184⟩, List.forall_mem_cons.mpr ⟨⟨mo_185, cw_185⟩, List.forall_mem_cons.mpr ⟨⟨mo_186, cw_186⟩, List.forall_mem_cons.mpr ⟨⟨mo_187, cw_187⟩, List.forall_mem_cons.mpr ⟨⟨mo_188, cw_188⟩, List.forall_mem_cons.mpr ⟨⟨mo_189, cw_189⟩, List.forall_mem_cons.mpr ⟨⟨mo_190, cw_190⟩, List.forall_mem_cons.mpr ⟨⟨mo_191, cw_191⟩, fun _ h => absurd h List.not_mem_nil⟩⟩⟩⟩⟩⟩⟩⟩⟩⟩⟩⟩⟩⟩⟩⟩
def mtab_12 : List MT := [mt_192, mt_193, mt_194, mt_195, mt_196, mt_197, mt_198, mt_199, mt_200, mt_201, mt_202, mt_203, mt_204, mt_205, mt_206, mt_207]
theorem mtab_12_ok : ∀ q ∈ mtab_12, mtOK q ∧ mtCW q := List.forall_mem_cons.mpr ⟨⟨mo_192, cw_192⟩, List.forall_mem_cons.mpr ⟨⟨mo_193, cw_193⟩, List.forall_mem_cons.mpr ⟨⟨mo_194, cw_194⟩, List.forall_mem_cons.mpr ⟨⟨mo_195, cw_195⟩, List.forall_mem_cons.mpr ⟨⟨mo_196, cw_196⟩, List.forall_mem_cons.mpr ⟨⟨mo_197, cw_197⟩, List.forall_mem_cons.mpr ⟨⟨mo_198, cw_198⟩, List.forall_mem_cons.mpr ⟨⟨mo_199, cw_199⟩, List.forall_mem_cons.mpr ⟨⟨mo_200, cw_200⟩, List.forall_mem_cons.mpr ⟨⟨mo_201, cw_201⟩, List.forall_mem_cons.mpr ⟨⟨mo_202, cw_202⟩, List.forall_mem_cons.mpr ⟨⟨mo_203, cw_203⟩, List.forall_mem_cons.mpr ⟨⟨mo_204, cw_204⟩, List.forall_mem_cons.mpr ⟨⟨mo_205, cw_205⟩, List.forall_mem_cons.mpr ⟨⟨mo_206, cw_206⟩, List.forall_mem_cons.mpr ⟨⟨mo_207, cw_207⟩, fun _ h => absurd h List.not_mem_nil⟩⟩⟩⟩⟩⟩⟩⟩⟩⟩⟩⟩⟩⟩⟩⟩
def mtab_13 : List MT := [mt_208, mt_209, mt_210, mt_211, mt_212, mt_213, mt_214, mt_215, mt_216, mt_217, mt_218, mt_219, mt_220, mt_221, mt_222, mt_223]
theorem mtab_13_ok : ∀ q ∈ mtab_13, mtOK q ∧ mtCW q := List.forall_mem_cons.mpr ⟨⟨mo_208, cw_208⟩, List.forall_mem_cons.mpr ⟨⟨mo_209, cw_209⟩, List.forall_mem_cons.mpr ⟨⟨mo_210, cw_210⟩, List.forall_mem_cons.mpr ⟨⟨mo_211, cw_211⟩, List.forall_mem_cons.mpr ⟨⟨mo_212, cw_212⟩, List.forall_mem_cons.mpr ⟨⟨mo_213, cw_213⟩, List.forall_mem_cons.mpr ⟨⟨mo_214, cw_214⟩, List.forall_mem_cons.mpr ⟨⟨mo_215, cw_215⟩, List.forall_mem_cons.mpr ⟨⟨mo_216, cw_216⟩, List.forall_mem_cons.mpr ⟨⟨mo_217, cw_217⟩, List.forall_mem_cons.mpr ⟨⟨mo_218, cw_218⟩, List.forall_mem_cons.mpr ⟨⟨mo_219, cw_219⟩, List.forall_mem_cons.mpr ⟨⟨mo_220, cw_220⟩, List.forall_mem_cons.mpr ⟨⟨mo_221, cw_221⟩, List.forall_mem_cons.mpr ⟨⟨mo_222, cw_222⟩, List.forall_mem_cons.mpr ⟨⟨mo_223, cw_223⟩, fun _ h => absurd h List.not_mem_nil⟩⟩⟩⟩⟩⟩⟩⟩⟩⟩⟩⟩⟩⟩⟩⟩
def mtab_14 : List MT := [mt_224, mt_225, mt_226, mt_227, mt_228, mt_229]
theorem mtab_14_ok : ∀ q ∈ mtab_14, mtOK q ∧ mtCW q := List.forall_mem_cons.mpr ⟨⟨mo_224, cw_224⟩, List.forall_mem_cons.mpr ⟨⟨mo_225, cw_225⟩, List.forall_mem_cons.mpr ⟨⟨mo_226, cw_226⟩, List.forall_mem_cons.mpr ⟨⟨mo_227, cw_227⟩, List.forall_mem_cons.mpr ⟨⟨mo_228, cw_228⟩, List.forall_mem_cons.mpr ⟨⟨mo_229, cw_229⟩, fun _ h => absurd h List.not_mem_nil⟩⟩⟩⟩⟩⟩
def mtab : List MT := mtab_0 ++ (mtab_1 ++ (mtab_2 ++ (mtab_3 ++ (mtab_4 ++ (mtab_5 ++ (mtab_6 ++ (mtab_7 ++ (mtab_8 ++ (mtab_9 ++ (mtab_10 ++ (mtab_11 ++ (mtab_12 ++ (mtab_13 ++ (mtab_14))))))))))))))
theorem mtab_ok : ∀ q ∈ mtab, mtOK q ∧ mtCW q := (fun q h => (List.mem_append.mp h).elim (mtab_0_ok q) ((fun q h => (List.mem_append.mp h).elim (mtab_1_ok q) ((fun q h => (List.mem_append.mp h).elim (mtab_2_ok q) ((fun q h => (List.mem_append.mp h).elim (mtab_3_ok q) ((fun q h => (List.mem_append.mp h).elim (mtab_4_ok q) ((fun q h => (List.mem_append.mp h).elim (mtab_5_ok q) ((fun q h => (List.mem_append.mp h).elim (mtab_6_ok q) ((fun q h => (List.mem_append.mp h).elim (mtab_7_ok q) ((fun q h => (List.mem_append.mp h).elim (mtab_8_ok q) ((fun q h => (List.mem_append.mp h).elim (mtab_9_ok q) ((fun q h => (List.mem_append.mp h).elim (mtab_10_ok q) ((fun q h => (List.mem_append.mp h).elim (mtab_11_ok q) ((fun q h => (List.mem_append.mp h).elim (mtab_12_ok q) ((fun q h => (List.mem_append.mp h).elim (mtab_13_ok q) (mtab_14_ok q)) q)) q)) q)) q)) q)) q)) q)) q)) q)) q)) q)) q)) q))
def mtabL : List MT := mtab ++ [mt_230]
theorem mtabL_ok : ∀ q ∈ mtabL, mtOK q := fun q h => (List.mem_append.mp h).elim (fun h => (mtab_ok q h).1) (fun h => (List.mem_singleton.mp h) ▸ mo_230)
-- fields: ((own, constant), class, place, nest, position of the link)
def flds : List ((Nat × Nat) × Nat × Nat × Nat × Nat) := [((0, 15), 13, 0, 0, 118), ((0, 22), 13, 1, 0, 119), ((2, 9), 7, 1, 0, 139), ((2, 15), 7, 2, 0, 141), ((2, 18), 7, 3, 0, 143), ((2, 21), 7, 4, 0, 145), ((2, 24), 7, 0, 0, 138), ((3, 7), 9, 0, 0, 186), ((3, 13), 9, 1, 0, 188), ((3, 16), 9, 2, 0, 190), ((3, 19), 9, 3, 0, 193), ((4, 7), 8, 0, 0, 210), ((4, 13), 8, 1, 0, 211), ((4, 16), 8, 2, 0, 212), ((4, 19), 8, 3, 0, 213), ((5, 7), 4, 0, 0, 243), ((6, 9), 3, 0, 0, 268), ((6, 15), 3, 1, 0, 269), ((7, 12), 2, 0, 0, 287), ((8, 47), 5, 6, 0, 340), ((8, 51), 5, 7, 0, 343), ((8, 54), 5, 8, 0, 345), ((8, 57), 5, 9, 0, 347), ((8, 11), 5, 0, 0, 327), ((8, 20), 5, 1, 0, 329), ((8, 24), 5, 2, 0, 332), ((8, 27), 5, 3, 0, 333), ((8, 30), 5, 4, 0, 335), ((8, 38), 5, 5, 0, 338), ((9, 12), 0, 1, 0, 399), ((9, 18), 0, 2, 0, 402), ((9, 22), 0, 0, 0, 398), ((10, 12), 10, 0, 0, 425), ((10, 23), 10, 1, 0, 427), ((10, 29), 10, 2, 0, 431), ((10, 35), 10, 3, 0, 432), ((10, 42), 10, 4, 0, 433), ((11, 9), 6, 0, 0, 492), ((12, 9), 1, 1, 0, 506), ((12, 15), 1, 2, 0, 508), ((12, 18), 1, 0, 0, 505), ((13, 10), 11, 0, 0, 521), ((13, 16), 11, 1, 0, 522), ((13, 24), 11, 2, 0, 523), ((13, 31), 11, 3, 0, 524), ((13, 40), 11, 4, 0, 525), ((13, 47), 11, 5, 0, 526), ((14, 9), 12, 0, 0, 1298), ((14, 13), 12, 3, 0, 1301), ((14, 16), 12, 4, 0, 1302), ((14, 19), 12, 5, 0, 1303), ((14, 22), 12, 6, 0, 1304), ((14, 25), 12, 7, 0, 1305), ((14, 29), 12, 8, 0, 1306), ((14, 32), 12, 9, 0, 1307), ((14, 35), 12, 10, 0, 1308), ((14, 38), 12, 11, 0, 1309), ((14, 41), 12, 12, 0, 1310), ((14, 44), 12, 20, 0, 1318), ((14, 47), 12, 21, 0, 1319), ((14, 50), 12, 22, 0, 1320), ((14, 53), 12, 23, 0, 1321), ((14, 56), 12, 24, 0, 1322), ((14, 60), 12, 25, 0, 1323), ((14, 63), 12, 26, 0, 1324), ((14, 66), 12, 27, 0, 1325), ((14, 69), 12, 28, 0, 1326), ((14, 72), 12, 29, 0, 1327), ((14, 75), 12, 30, 0, 1328), ((14, 78), 12, 31, 0, 1329), ((14, 81), 12, 32, 0, 1330), ((14, 84), 12, 33, 0, 1331), ((14, 87), 12, 34, 0, 1332), ((14, 90), 12, 35, 0, 1333), ((14, 93), 12, 39, 0, 1337), ((14, 96), 12, 40, 0, 1338), ((14, 99), 12, 41, 0, 1339), ((14, 102), 12, 42, 0, 1340), ((14, 105), 12, 43, 0, 1341), ((14, 108), 12, 44, 0, 1342), ((14, 111), 12, 45, 0, 1343), ((14, 114), 12, 46, 0, 1344), ((14, 117), 12, 47, 0, 1345), ((14, 120), 12, 48, 0, 1346), ((14, 123), 12, 49, 0, 1347), ((14, 126), 12, 50, 0, 1348), ((14, 129), 12, 51, 0, 1349), ((14, 132), 12, 52, 0, 1350), ((14, 135), 12, 53, 0, 1351), ((14, 138), 12, 54, 0, 1352), ((14, 141), 12, 55, 0, 1353), ((14, 144), 12, 56, 0, 1354), ((14, 148), 12, 57, 0, 1355), ((14, 151), 12, 62, 0, 1360), ((14, 154), 12, 63, 0, 1361), ((14, 157), 12, 64, 0, 1362), ((14, 160), 12, 65, 0, 1363), ((14, 163), 12, 66, 0, 1364), ((14, 166), 12, 67, 0, 1365), ((14, 169), 12, 69, 0, 1367), ((14, 172), 12, 70, 0, 1368), ((14, 175), 12, 71, 0, 1369), ((14, 178), 12, 72, 0, 1370), ((14, 181), 12, 73, 0, 1371), ((14, 184), 12, 74, 0, 1372), ((14, 187), 12, 75, 0, 1373), ((14, 190), 12, 76, 0, 1374), ((14, 193), 12, 79, 0, 1377), ((0, 79), 13, 3, 0, 121), ((14, 208), 12, 1, 0, 1299), ((2, 28), 7, 7, 0, 151), ((2, 86), 7, 8, 0, 153), ((2, 32), 7, 5, 0, 147), ((2, 35), 7, 6, 0, 149), ((0, 73), 13, 2, 0, 120), ((10, 50), 10, 5, 0, 435), ((6, 18), 3, 2, 0, 270), ((7, 18), 2, 4, 0, 301), ((7, 22), 2, 6, 0, 306), ((8, 71), 5, 10, 0, 350), ((8, 74), 5, 11, 0, 353), ((8, 77), 5, 12, 0, 356), ((8, 80), 5, 13, 0, 359), ((5, 29), 4, 1, 0, 244), ((5, 33), 4, 2, 0, 246), ((4, 26), 8, 4, 0, 214), ((4, 23), 8, 5, 0, 215), ((9, 59), 0, 3, 0, 403), ((9, 26), 0, 4, 0, 404), ((9, 35), 0, 5, 0, 406), ((9, 55), 0, 6, 0, 408), ((7, 28), 2, 1, 0, 290), ((7, 32), 2, 2, 0, 294), ((7, 35), 2, 3, 0, 298), ((10, 126), 10, 12, 0, 451), ((10, 97), 10, 8, 0, 443), ((10, 135), 10, 6, 0, 440), ((10, 100), 10, 11, 0, 448), ((10, 103), 10, 9, 0, 444), ((10, 106), 10, 14, 0, 454), ((10, 113), 10, 10, 0, 446), ((10, 65), 7, 5, 1, 148), ((10, 68), 7, 1, 1, 140), ((10, 72), 7, 2, 1, 142), ((10, 75), 7, 3, 1, 144), ((10, 78), 7, 4, 1, 146), ((10, 85), 7, 6, 1, 150), ((11, 15), 6, 1, 0, 493), ((11, 19), 10, 5, 1, 436), ((11, 28), 5, 4, 1, 336), ((13, 69), 7, 7, 1, 152), ((13, 80), 10, 5, 1, 437), ((14, 212), 12, 60, 0, 1358), ((14, 215), 12, 61, 0, 1359), ((14, 268), 12, 17, 0, 1315), ((14, 262), 12, 37, 0, 1335), ((14, 271), 12, 14, 0, 1312), ((14, 243), 12, 15, 0, 1313), ((14, 246), 12, 58, 0, 1356), ((14, 249), 12, 59, 0, 1357), ((14, 253), 12, 16, 0, 1314), ((14, 256), 12, 18, 0, 1316), ((14, 259), 12, 19, 0, 1317), ((14, 196), 12, 2, 0, 1300), ((13, 83), 10, 14, 1, 453), ((13, 88), 10, 0, 1, 426), ((13, 101), 10, 1, 1, 430), ((13, 105), 8, 5, 1, 218), ((14, 275), 12, 13, 0, 1311), ((10, 58), 5, 9, 1, 348), ((10, 61), 5, 0, 1, 328), ((10, 168), 2, 0, 1, 288), ((10, 156), 8, 5, 1, 219), ((9, 30), 9, 2, 1, 191), ((9, 58), 9, 1, 1, 189), ((10, 145), 2, 4, 1, 302), ((9, 38), 9, 0, 1, 187), ((10, 153), 2, 1, 1, 292), ((10, 276), 5, 10, 1, 352), ((10, 279), 5, 11, 1, 355), ((10, 212), 2, 3, 1, 300), ((10, 215), 2, 2, 1, 297), ((10, 150), 2, 5, 1, 304), ((10, 295), 5, 6, 1, 342), ((10, 132), 10, 13, 0, 452), ((10, 165), 0, 1, 1, 400), ((10, 171), 5, 1, 1, 330), ((10, 223), 9, 3, 1, 194), ((10, 233), 5, 12, 1, 358), ((10, 244), 5, 13, 1, 361), ((8, 98), 2, 5, 1, 305), ((8, 101), 2, 6, 1, 307), ((10, 138), 10, 7, 0, 442), ((14, 312), 12, 36, 0, 1334), ((14, 318), 12, 38, 0, 1336), ((14, 291), 12, 68, 0, 1366), ((13, 120), 10, 12, 1, 450), ((13, 130), 10, 11, 1, 449), ((13, 142), 10, 6, 1, 441), ((13, 145), 10, 9, 1, 445), ((13, 148), 10, 10, 1, 447), ((13, 160), 5, 6, 1, 341), ((13, 165), 5, 9, 1, 349), ((13, 166), 5, 7, 1, 344), ((13, 169), 5, 8, 1, 346), ((13, 172), 5, 10, 1, 351), ((13, 175), 5, 11, 1, 354), ((13, 178), 5, 12, 1, 357), ((13, 181), 5, 13, 1, 360), ((13, 188), 2, 0, 1, 289), ((13, 193), 2, 1, 1, 293), ((13, 196), 2, 2, 1, 296), ((13, 199), 2, 3, 1, 299), ((13, 202), 2, 4, 1, 303), ((13, 213), 0, 4, 1, 405), ((13, 218), 0, 5, 1, 407), ((13, 221), 0, 1, 1, 401), ((13, 224), 0, 6, 1, 409), ((13, 227), 9, 2, 1, 192), ((13, 230), 5, 1, 1, 331), ((13, 238), 5, 3, 1, 334), ((13, 241), 10, 4, 1, 434), ((13, 245), 4, 1, 1, 245), ((13, 250), 4, 2, 1, 247), ((11, 62), 5, 5, 1, 339), ((11, 70), 8, 5, 1, 217), ((11, 39), 10, 6, 1, 438), ((11, 45), 10, 1, 1, 428), ((13, 259), 5, 4, 1, 337), ((12, 54), 2, 1, 1, 291), ((12, 63), 10, 6, 1, 439), ((12, 66), 10, 1, 1, 429), ((12, 70), 8, 5, 1, 216), ((12, 78), 2, 2, 1, 295), ((12, 26), 1, 3, 0, 510), ((14, 393), 12, 78, 0, 1376), ((14, 396), 12, 77, 0, 1375), ((13, 265), 1, 3, 1, 511), ((13, 268), 1, 1, 1, 507), ((13, 272), 1, 2, 1, 509), ((14, 402), 12, 80, 0, 1378)]
def fldOK (q : (Nat × Nat) × Nat × Nat × Nat × Nat) : Bool := match classes[q.2.1]? with
  | some r => decide (q.2.2.1 < r.2.2) && (if q.2.2.2.1 = 0 then hasW q.2.2.2.2 (.fieldLink (oN q.1.1) q.1.2 (r.2.1 q.2.2.1).1 (r.2.1 q.2.2.1).2.1 (r.2.1 q.2.2.1).2.2.1) else hasN q.2.2.2.2 (.fieldLinkNest (oN q.1.1) q.1.2 (r.2.1 q.2.2.1).1 (r.2.1 q.2.2.1).2.1 (r.2.1 q.2.2.1).2.2.1 "PipelineSimulator"))
  | none => false
theorem flds_ok : flds.all fldOK = true := by decide +kernel
-- calls: ((own, constant), kind, method, arguments, positions)
abbrev ST : Type := (Nat × Nat) × Nat × Nat × Nat × List Nat
def sites_0 : List ST := [((0, 3), 8, 0, 0, [108]), ((1, 1), 2, 0, 1, [105, 107, 67, 106]), ((2, 3), 8, 0, 0, [137]), ((3, 1), 8, 0, 0, [185]), ((4, 1), 8, 0, 0, [209]), ((5, 1), 8, 0, 0, [242]), ((6, 3), 8, 0, 0, [267]), ((7, 1), 8, 0, 0, [284]), ((7, 9), 2, 4, 1, [286, 208, 74, 207]), ((8, 3), 8, 0, 0, [259]), ((8, 19), 6, 6, 0, [264, 266, 77, 265]), ((8, 35), 2, 4, 1, [279, 208, 74, 207]), ((8, 42), 6, 7, 0, [281, 283, 78, 282]), ((8, 43), 1, 8, 4, [323, 326, 76, 324, 325]), ((9, 1), 8, 0, 0, [395]), ((9, 9), 2, 4, 1, [397, 208, 74, 207]), ((10, 3), 8, 0, 0, [179]), ((10, 11), 6, 3, 0, [182, 184, 73, 183]), ((10, 20), 2, 4, 1, [206, 208, 74, 207]), ((10, 41), 6, 5, 0, [239, 241, 75, 240]), ((10, 46), 2, 9, 1, [256, 258, 76, 257]), ((10, 47), 2, 10, 1, [392, 394, 79, 393]), ((11, 3), 8, 0, 0, [491]), ((12, 3), 8, 0, 0, [504]), ((13, 1), 8, 0, 0, [97]), ((13, 9), 2, 1, 0, [102, 104, 68, 103]), ((13, 21), 2, 2, 1, [134, 136, 71, 135]), ((13, 30), 2, 11, 0, [176, 178, 72, 177]), ((13, 37), 2, 12, 1, [488, 490, 80, 489]), ((13, 46), 2, 13, 1, [501, 503, 81, 502])]
def sites_1 : List ST := [((14, 3), 8, 0, 0, [1296]), ((1, 343), 4, 16, 0, [549, 551, 67, 550, 1808, 130]), ((16, 194), 0, 18, 2, [571, 573, 84, 572]), ((0, 114), 0, 19, 3, [568, 570, 83, 569]), ((17, 304), 0, 21, 2, [589, 591, 84, 590]), ((17, 150), 9, 0, 5, [592]), ((0, 104), 3, 20, 1, [564, 567, 67, 566, 1811, 1]), ((0, 108), 0, 22, 2, [579, 581, 85, 580]), ((0, 100), 3, 23, 1, [560, 563, 67, 562, 1810, 0]), ((0, 83), 3, 24, 0, [595, 599, 67, 596, 597, 598]), ((0, 191), 0, 25, 1, [600, 602, 87, 601]), ((1, 50), 4, 26, 1, [557, 559, 67, 558, 1809, 130]), ((13, 52), 1, 17, 0, [545, 548, 68, 546, 547]), ((13, 57), 1, 27, 1, [553, 556, 68, 554, 555]), ((14, 203), 0, 29, 3, [1547, 1549, 82, 1548]), ((20, 1059), 0, 31, 3, [645, 647, 88, 646]), ((0, 138), 0, 21, 2, [668, 591, 84, 590]), ((0, 144), 0, 32, 2, [669, 644, 69, 643]), ((1, 329), 4, 33, 1, [665, 667, 67, 666, 1813, 130]), ((2, 52), 1, 17, 0, [660, 548, 68, 546, 547]), ((2, 57), 1, 34, 1, [661, 664, 68, 662, 663]), ((20, 335), 7, 37, 0, [699, 702, 69, 700, 701]), ((18, 88), 0, 39, 1, [706, 708, 87, 707]), ((18, 92), 0, 18, 2, [709, 573, 84, 572]), ((18, 38), 0, 21, 2, [710, 591, 84, 590]), ((18, 95), 0, 40, 4, [711, 713, 87, 712]), ((20, 492), 7, 36, 0, [690, 693, 69, 691, 692]), ((20, 505), 7, 38, 0, [695, 698, 69, 696, 697]), ((20, 637), 0, 41, 4, [703, 705, 87, 704]), ((20, 633), 7, 42, 2, [686, 689, 69, 687, 688])]
def sites_2 : List ST := [((2, 38), 1, 35, 0, [656, 659, 71, 658, 2]), ((2, 76), 1, 45, 1, [753, 756, 71, 755, 5]), ((2, 89), 1, 46, 0, [761, 764, 71, 763, 7]), ((2, 46), 1, 49, 0, [773, 776, 71, 775, 10]), ((2, 67), 7, 43, 1, [682, 685, 69, 683, 684]), ((2, 73), 5, 44, 1, [750, 752, 66, 751]), ((2, 80), 1, 47, 0, [757, 760, 71, 759, 6]), ((2, 83), 1, 48, 1, [765, 768, 71, 767, 8]), ((2, 49), 1, 50, 0, [769, 772, 71, 771, 9]), ((2, 61), 1, 51, 1, [677, 680, 71, 679, 4]), ((2, 42), 1, 52, 0, [673, 676, 71, 675, 3]), ((1, 333), 4, 54, 1, [781, 783, 67, 782, 1814, 130]), ((6, 28), 0, 57, 2, [818, 820, 85, 819]), ((8, 86), 1, 59, 0, [825, 828, 78, 826, 827]), ((8, 68), 1, 58, 0, [814, 817, 77, 815, 816]), ((8, 83), 1, 60, 0, [821, 824, 76, 822, 823]), ((5, 38), 0, 57, 2, [833, 820, 85, 819]), ((9, 65), 1, 63, 0, [842, 845, 74, 843, 844]), ((6, 22), 9, 0, 5, [854]), ((7, 25), 1, 63, 0, [859, 845, 74, 843, 844]), ((8, 87), 1, 65, 1, [850, 853, 77, 851, 852]), ((8, 91), 1, 66, 0, [855, 858, 78, 856, 857]), ((10, 221), 1, 64, 0, [838, 841, 79, 839, 840]), ((10, 222), 1, 67, 0, [846, 849, 76, 847, 848]), ((10, 91), 1, 61, 0, [810, 813, 76, 811, 812]), ((10, 94), 1, 62, 0, [829, 832, 75, 830, 831]), ((10, 110), 1, 68, 0, [834, 837, 72, 836, 11]), ((10, 54), 1, 56, 1, [801, 804, 72, 802, 803]), ((10, 81), 1, 8, 4, [805, 326, 76, 324, 325]), ((10, 88), 1, 69, 0, [806, 809, 72, 807, 808])]
def sites_3 : List ST := [((11, 24), 1, 56, 1, [864, 804, 72, 802, 803]), ((11, 34), 1, 58, 0, [865, 817, 77, 815, 816]), ((13, 61), 1, 53, 0, [652, 655, 71, 653, 654]), ((13, 65), 1, 55, 1, [777, 780, 68, 778, 779]), ((13, 73), 1, 70, 1, [797, 800, 72, 798, 799]), ((13, 77), 1, 71, 0, [860, 863, 80, 861, 862]), ((14, 219), 1, 73, 0, [1556, 1559, 82, 1558, 26]), ((14, 222), 0, 74, 1, [1564, 1566, 82, 1565]), ((14, 226), 1, 75, 1, [1567, 1570, 82, 1569, 28]), ((14, 230), 1, 76, 2, [1571, 1574, 82, 1573, 29]), ((14, 234), 1, 77, 0, [1575, 1578, 82, 1577, 30]), ((14, 265), 1, 79, 0, [1583, 1586, 82, 1585, 32]), ((14, 237), 1, 78, 1, [1560, 1563, 82, 1562, 27]), ((14, 240), 1, 80, 0, [1579, 1582, 82, 1581, 31]), ((13, 92), 1, 82, 0, [871, 874, 73, 872, 873]), ((13, 97), 1, 83, 4, [875, 878, 73, 876, 877]), ((13, 110), 1, 86, 3, [883, 886, 74, 884, 885]), ((10, 129), 1, 90, 1, [903, 906, 72, 904, 905]), ((10, 141), 1, 91, 2, [907, 910, 72, 908, 909]), ((10, 157), 1, 89, 0, [895, 898, 79, 896, 897]), ((10, 161), 1, 92, 0, [899, 902, 72, 900, 901]), ((9, 52), 1, 95, 1, [927, 930, 79, 929, 13]), ((9, 41), 1, 94, 0, [919, 922, 79, 920, 921]), ((9, 45), 1, 96, 0, [923, 926, 79, 925, 12]), ((10, 190), 1, 98, 0, [943, 946, 76, 944, 945]), ((10, 193), 1, 99, 1, [947, 950, 74, 948, 949]), ((10, 196), 1, 100, 2, [951, 954, 76, 952, 953]), ((10, 200), 0, 101, 2, [955, 957, 84, 956]), ((9, 48), 1, 86, 3, [978, 886, 74, 884, 885]), ((10, 247), 1, 102, 2, [939, 942, 72, 940, 941])]
def sites_4 : List ST := [((10, 205), 1, 103, 3, [958, 961, 72, 959, 960]), ((10, 251), 1, 104, 0, [962, 965, 79, 963, 964]), ((10, 254), 1, 105, 1, [966, 969, 74, 967, 968]), ((10, 257), 1, 106, 1, [970, 973, 74, 971, 972]), ((10, 260), 1, 107, 3, [974, 977, 79, 975, 976]), ((10, 264), 1, 108, 0, [979, 982, 74, 980, 981]), ((10, 209), 1, 110, 0, [991, 994, 79, 992, 993]), ((10, 267), 1, 111, 2, [987, 990, 72, 988, 989]), ((10, 270), 1, 112, 0, [995, 998, 79, 996, 997]), ((10, 273), 1, 86, 3, [1003, 886, 74, 884, 885]), ((10, 218), 1, 115, 0, [1012, 1015, 79, 1013, 1014]), ((9, 62), 1, 108, 0, [1024, 982, 74, 980, 981]), ((8, 64), 1, 100, 2, [1033, 954, 76, 952, 953]), ((8, 94), 1, 119, 2, [1034, 1037, 77, 1035, 1036]), ((10, 305), 1, 120, 1, [1029, 1032, 76, 1030, 1031]), ((5, 14), 0, 21, 2, [1043, 591, 84, 590]), ((5, 20), 0, 18, 2, [1044, 573, 84, 572]), ((5, 23), 0, 122, 2, [1045, 1047, 85, 1046]), ((8, 120), 1, 125, 1, [1067, 1070, 77, 1068, 1069]), ((8, 127), 1, 126, 1, [1071, 1074, 77, 1072, 1073]), ((8, 104), 1, 86, 3, [1057, 886, 74, 884, 885]), ((8, 130), 1, 127, 1, [1075, 1078, 77, 1076, 1077]), ((8, 124), 1, 128, 3, [1079, 1082, 77, 1080, 1081]), ((8, 108), 1, 124, 1, [1058, 1061, 76, 1060, 20]), ((8, 111), 0, 101, 2, [1062, 957, 84, 956]), ((8, 116), 1, 129, 5, [1063, 1066, 76, 1065, 21]), ((8, 60), 1, 130, 1, [1083, 1086, 77, 1084, 1085]), ((10, 282), 1, 116, 2, [1008, 1011, 72, 1009, 1010]), ((10, 285), 1, 117, 0, [1016, 1019, 79, 1017, 1018]), ((10, 288), 1, 118, 0, [1020, 1023, 79, 1021, 1022])]
def sites_5 : List ST := [((10, 291), 1, 121, 3, [1025, 1028, 72, 1027, 19]), ((10, 298), 1, 123, 1, [1038, 1041, 75, 1039, 1040]), ((10, 301), 1, 131, 5, [1053, 1056, 76, 1054, 1055]), ((10, 226), 1, 109, 3, [935, 938, 72, 937, 15]), ((10, 230), 1, 113, 3, [983, 986, 72, 985, 16]), ((10, 236), 1, 114, 2, [999, 1002, 72, 1001, 17]), ((10, 240), 1, 132, 4, [1004, 1007, 72, 1006, 18]), ((10, 308), 1, 134, 0, [1091, 1094, 76, 1092, 1093]), ((10, 180), 1, 97, 0, [915, 918, 79, 916, 917]), ((10, 183), 1, 133, 2, [931, 934, 72, 933, 14]), ((10, 187), 1, 135, 0, [1087, 1090, 72, 1089, 22]), ((13, 114), 1, 93, 0, [891, 894, 72, 892, 893]), ((13, 117), 1, 136, 0, [911, 914, 72, 912, 913]), ((14, 281), 1, 142, 1, [1641, 1644, 82, 1643, 40]), ((14, 285), 1, 143, 2, [1645, 1648, 82, 1647, 41]), ((14, 288), 0, 141, 2, [1634, 1636, 82, 1635]), ((14, 278), 1, 139, 1, [1618, 1621, 82, 1620, 35]), ((14, 324), 0, 145, 3, [1649, 1651, 82, 1650]), ((14, 341), 1, 148, 1, [1664, 1667, 82, 1666, 45]), ((14, 344), 1, 144, 3, [1637, 1640, 82, 1639, 39]), ((14, 347), 1, 146, 1, [1652, 1655, 82, 1654, 42]), ((14, 350), 1, 147, 4, [1656, 1659, 82, 1658, 43]), ((14, 354), 1, 149, 2, [1660, 1663, 82, 1662, 44]), ((14, 357), 1, 150, 1, [1668, 1671, 82, 1670, 46]), ((14, 315), 1, 155, 2, [1692, 1695, 82, 1694, 52]), ((14, 199), 1, 140, 0, [1622, 1625, 82, 1624, 36]), ((14, 321), 1, 156, 0, [1696, 1699, 82, 1698, 53]), ((14, 294), 1, 158, 2, [1708, 1711, 82, 1710, 56]), ((14, 298), 0, 159, 1, [1712, 1714, 82, 1713]), ((14, 301), 1, 160, 6, [1704, 1707, 82, 1706, 55])]
def sites_6 : List ST := [((14, 305), 1, 152, 5, [1676, 1679, 82, 1678, 48]), ((14, 328), 1, 153, 2, [1680, 1683, 82, 1682, 49]), ((14, 331), 1, 154, 1, [1684, 1687, 82, 1686, 50]), ((14, 334), 1, 157, 3, [1688, 1691, 82, 1690, 51]), ((14, 338), 1, 161, 5, [1700, 1703, 82, 1702, 54]), ((14, 360), 1, 151, 2, [1630, 1633, 82, 1632, 38]), ((14, 364), 1, 162, 2, [1672, 1675, 82, 1674, 47]), ((14, 367), 1, 163, 2, [1626, 1629, 82, 1628, 37]), ((14, 370), 1, 138, 0, [1610, 1613, 82, 1612, 33]), ((14, 374), 1, 164, 0, [1614, 1617, 82, 1616, 34]), ((13, 124), 1, 168, 0, [1104, 1107, 72, 1105, 1106]), ((13, 127), 1, 171, 0, [1112, 1115, 72, 1113, 1114]), ((10, 116), 1, 171, 0, [1126, 1115, 72, 1113, 1114]), ((10, 119), 1, 174, 1, [1127, 1130, 76, 1128, 1129]), ((10, 123), 1, 60, 0, [1131, 824, 76, 822, 823]), ((13, 133), 1, 56, 1, [1120, 804, 72, 802, 803]), ((13, 138), 1, 175, 2, [1122, 1125, 72, 1123, 1124]), ((14, 377), 1, 177, 1, [1732, 1735, 82, 1734, 57]), ((10, 175), 1, 126, 1, [1145, 1074, 77, 1072, 1073]), ((13, 151), 1, 179, 0, [1136, 1139, 72, 1137, 1138]), ((13, 154), 1, 92, 0, [1140, 902, 72, 900, 901]), ((13, 157), 1, 180, 0, [1141, 1144, 72, 1142, 1143]), ((14, 380), 1, 182, 1, [1740, 1743, 82, 1742, 58]), ((13, 184), 1, 91, 2, [1154, 910, 72, 908, 909]), ((13, 205), 1, 186, 1, [1155, 1158, 76, 1156, 1157]), ((14, 383), 1, 188, 2, [1752, 1755, 82, 1754, 59]), ((13, 209), 1, 103, 3, [1163, 961, 72, 959, 960]), ((13, 295), 1, 130, 1, [1171, 1086, 77, 1084, 1085]), ((13, 301), 1, 125, 1, [1172, 1070, 77, 1068, 1069]), ((13, 304), 1, 126, 1, [1173, 1074, 77, 1072, 1073])]
def sites_7 : List ST := [((13, 234), 0, 192, 3, [1168, 1170, 66, 1169]), ((14, 386), 1, 194, 6, [1764, 1767, 82, 1766, 60]), ((13, 253), 1, 198, 1, [1182, 1185, 75, 1183, 1184]), ((11, 65), 1, 63, 0, [1201, 845, 74, 843, 844]), ((11, 66), 1, 131, 5, [1202, 1056, 76, 1054, 1055]), ((11, 49), 1, 99, 1, [1196, 950, 74, 948, 949]), ((11, 55), 1, 105, 1, [1197, 969, 74, 967, 968]), ((11, 58), 0, 201, 4, [1198, 1200, 80, 1199]), ((11, 42), 1, 71, 0, [1195, 863, 80, 861, 862]), ((13, 256), 1, 202, 0, [1191, 1194, 80, 1192, 1193]), ((14, 390), 1, 204, 0, [1776, 1779, 82, 1778, 61]), ((12, 34), 1, 91, 2, [1215, 910, 72, 908, 909]), ((12, 40), 1, 102, 2, [1216, 942, 72, 940, 941]), ((12, 44), 1, 103, 3, [1217, 961, 72, 959, 960]), ((12, 48), 1, 104, 0, [1218, 965, 79, 963, 964]), ((12, 60), 1, 111, 2, [1219, 990, 72, 988, 989]), ((12, 75), 1, 116, 2, [1220, 1011, 72, 1009, 1010]), ((12, 81), 0, 207, 1, [1225, 1227, 81, 1226]), ((12, 22), 1, 206, 2, [1211, 1214, 81, 1213, 23]), ((12, 30), 1, 208, 3, [1221, 1224, 81, 1223, 24]), ((13, 262), 1, 209, 2, [1207, 1210, 81, 1208, 1209]), ((14, 399), 1, 211, 2, [1784, 1787, 82, 1786, 62]), ((18, 9), 0, 32, 2, [1249, 644, 69, 643]), ((20, 495), 0, 215, 2, [1246, 1248, 87, 1247]), ((0, 245), 0, 217, 1, [1261, 1263, 91, 1262]), ((0, 248), 0, 218, 3, [1264, 1266, 91, 1265]), ((1, 53), 4, 219, 1, [1258, 1260, 67, 1259, 1815, 130]), ((13, 309), 7, 38, 0, [1241, 698, 69, 696, 697]), ((13, 312), 7, 216, 1, [1242, 1245, 69, 1243, 1244]), ((13, 313), 0, 44, 1, [1253, 752, 66, 751])]
def sites_8 : List ST := [((13, 282), 1, 220, 1, [1254, 1257, 68, 1255, 1256]), ((13, 275), 1, 221, 1, [1236, 1239, 66, 1238, 25]), ((13, 279), 1, 90, 1, [1279, 906, 72, 904, 905]), ((14, 405), 1, 223, 1, [1796, 1799, 82, 1798, 63]), ((14, 408), 1, 224, 1, [1800, 1803, 82, 1802, 64]), ((13, 285), 1, 34, 1, [1284, 664, 68, 662, 663]), ((13, 289), 1, 63, 0, [1289, 845, 74, 843, 844]), ((13, 292), 1, 69, 0, [1290, 809, 72, 807, 808]), ((22, 9), 2, 14, 0, [94, 96, 66, 95]), ((22, 12), 2, 15, 0, [1293, 1295, 82, 1294]), ((22, 13), 1, 28, 2, [540, 543, 66, 541, 542]), ((22, 17), 1, 30, 2, [1543, 1546, 82, 1544, 1545]), ((22, 18), 1, 72, 0, [648, 651, 66, 649, 650]), ((22, 22), 1, 81, 0, [1552, 1555, 82, 1553, 1554]), ((22, 23), 1, 84, 4, [866, 869, 66, 867, 868]), ((22, 27), 1, 85, 4, [1587, 1590, 82, 1588, 1589]), ((22, 28), 1, 87, 2, [879, 882, 66, 880, 881]), ((22, 31), 1, 88, 2, [1592, 1595, 82, 1593, 1594]), ((22, 32), 1, 137, 1, [887, 890, 66, 888, 889]), ((22, 36), 1, 165, 1, [1606, 1609, 82, 1607, 1608]), ((22, 37), 1, 166, 0, [1095, 1098, 66, 1096, 1097]), ((22, 40), 1, 167, 0, [1715, 1718, 82, 1716, 1717]), ((22, 41), 1, 169, 0, [1099, 1102, 66, 1100, 1101]), ((22, 44), 1, 170, 0, [1719, 1722, 82, 1720, 1721]), ((22, 45), 1, 172, 0, [1108, 1111, 66, 1109, 1110]), ((22, 48), 1, 173, 0, [1724, 1727, 82, 1725, 1726]), ((22, 49), 1, 176, 2, [1116, 1119, 66, 1117, 1118]), ((22, 52), 1, 178, 2, [1728, 1731, 82, 1729, 1730]), ((22, 53), 1, 181, 1, [1132, 1135, 66, 1133, 1134]), ((22, 56), 1, 183, 1, [1736, 1739, 82, 1737, 1738])]
def sites_9 : List ST := [((22, 57), 1, 184, 2, [1146, 1149, 66, 1147, 1148]), ((22, 60), 1, 185, 2, [1744, 1747, 82, 1745, 1746]), ((22, 61), 1, 187, 3, [1150, 1153, 66, 1151, 1152]), ((22, 65), 1, 189, 3, [1748, 1751, 82, 1749, 1750]), ((22, 66), 1, 190, 4, [1159, 1162, 66, 1160, 1161]), ((22, 69), 1, 191, 4, [1756, 1759, 82, 1757, 1758]), ((22, 70), 1, 193, 3, [1164, 1167, 66, 1165, 1166]), ((22, 73), 1, 195, 3, [1760, 1763, 82, 1761, 1762]), ((22, 74), 1, 196, 3, [1174, 1177, 66, 1175, 1176]), ((22, 77), 1, 197, 3, [1768, 1771, 82, 1769, 1770]), ((22, 78), 1, 199, 1, [1178, 1181, 66, 1179, 1180]), ((22, 81), 1, 200, 1, [1600, 1603, 82, 1601, 1602]), ((22, 82), 1, 203, 2, [1187, 1190, 66, 1188, 1189]), ((22, 85), 1, 205, 2, [1772, 1775, 82, 1773, 1774]), ((22, 86), 1, 210, 2, [1203, 1206, 66, 1204, 1205]), ((22, 89), 1, 212, 2, [1780, 1783, 82, 1781, 1782]), ((22, 90), 1, 213, 2, [1228, 1231, 66, 1229, 1230]), ((22, 93), 1, 214, 2, [1788, 1791, 82, 1789, 1790]), ((22, 94), 1, 222, 0, [1232, 1235, 66, 1233, 1234]), ((22, 97), 1, 225, 0, [1792, 1795, 82, 1793, 1794]), ((22, 98), 1, 226, 1, [1280, 1283, 66, 1281, 1282]), ((22, 101), 1, 227, 1, [1804, 1807, 82, 1805, 1806]), ((22, 102), 1, 228, 0, [1285, 1288, 66, 1286, 1287]), ((22, 105), 1, 229, 0, [1596, 1599, 82, 1597, 1598])]
def sites : List ST := sites_0 ++ (sites_1 ++ (sites_2 ++ (sites_3 ++ (sites_4 ++ (sites_5 ++ (sites_6 ++ (sites_7 ++ (sites_8 ++ (sites_9)))))))))
def siteOK (q : ST) : Bool := match mtab[q.2.2.1]? with
  | none => false
  | some r =>
    let P := fun i => q.2.2.2.2.getD i 0
    let own := oN q.1.1
    let base := hasW (P 2) (.initialized r.1.cls) && decide ((parseMethodDescriptor r.1.desc).map (fun d => d.parameters.length) = some q.2.2.2.1) && decide (r.1.cls ≠ "java/lang/invoke/MethodHandle") && decide (r.1.cls ≠ "java/lang/invoke/VarHandle")
    match q.2.1 with
    | 0 => base && hasW (P 0) (.methodLink own q.1.2 r.1) && hasW (P 3) (.static r.1)
    | 1 => base && hasW (P 0) (.methodLink own q.1.2 r.1) && hasW (P 3) (.instanceMethod r.1) && hasW (P 4) (.selects r.1.cls r.1 r.1)
    | 2 => base && hasW (P 0) (.methodLink own q.1.2 r.1) && hasW (P 3) (.instanceMethod r.1) && decide (r.1.name = "<init>") && decide (r.2.2.2.1 = none)
    | 3 => base && hasW (P 0) (.methodLink own q.1.2 r.1) && hasW (P 3) (.instanceMethod r.1) && hasW (P 4) (.sameMethod r.1.cls r.1.cls r.1.name r.1.desc) && hasW (P 5) (.selects "java/lang/StringBuilder" r.1 r.1)
    | 4 => base && hasW (P 0) (.methodLink own q.1.2 r.1) && hasW (P 3) (.instanceMethod r.1) && hasW (P 4) (.sameMethod r.1.cls r.1.cls r.1.name r.1.desc) && hasW (P 5) (.superclass own r.1.cls) && decide (own = "java/lang/StringBuilder") && decide (r.1.name ≠ "<init>")
    | 5 => base && hasN (P 0) (.methodLinkNest own q.1.2 r.1 "PipelineSimulator") && hasW (P 3) (.static r.1)
    | 6 => base && hasN (P 0) (.methodLinkNest own q.1.2 r.1 "PipelineSimulator") && hasW (P 3) (.instanceMethod r.1) && decide (r.1.name = "<init>") && decide (r.2.2.2.1 = none)
    | 7 => base && hasW (P 0) (.methodLink own q.1.2 r.1) && hasW (P 3) (.instanceMethod r.1) && hasW (P 4) (.selects r.1.cls r.1 r.1) && decide (r.1.cls = "java/lang/String")
    | 8 => hasW (P 0) (.methodLink own q.1.2 Lib.objectInit)
    | 9 => hasW (P 0) (.methodLink own q.1.2 arraycopyName)
    | _ => false
theorem sites_0_ok : sites_0.all siteOK = true := by decide +kernel
theorem sites_1_ok : sites_1.all siteOK = true := by decide +kernel
theorem sites_2_ok : sites_2.all siteOK = true := by decide +kernel
theorem sites_3_ok : sites_3.all siteOK = true := by decide +kernel
theorem sites_4_ok : sites_4.all siteOK = true := by decide +kernel
theorem sites_5_ok : sites_5.all siteOK = true := by decide +kernel
theorem sites_6_ok : sites_6.all siteOK = true := by decide +kernel
theorem sites_7_ok : sites_7.all siteOK = true := by decide +kernel
theorem sites_8_ok : sites_8.all siteOK = true := by decide +kernel
theorem sites_9_ok : sites_9.all siteOK = true := by decide +kernel
theorem sites_ok : ∀ q ∈ sites, siteOK q = true := fun q h => (List.mem_append.mp h).elim (fun h => List.all_eq_true.mp sites_0_ok q h) ((fun q h => (List.mem_append.mp h).elim (fun h => List.all_eq_true.mp sites_1_ok q h) ((fun q h => (List.mem_append.mp h).elim (fun h => List.all_eq_true.mp sites_2_ok q h) ((fun q h => (List.mem_append.mp h).elim (fun h => List.all_eq_true.mp sites_3_ok q h) ((fun q h => (List.mem_append.mp h).elim (fun h => List.all_eq_true.mp sites_4_ok q h) ((fun q h => (List.mem_append.mp h).elim (fun h => List.all_eq_true.mp sites_5_ok q h) ((fun q h => (List.mem_append.mp h).elim (fun h => List.all_eq_true.mp sites_6_ok q h) ((fun q h => (List.mem_append.mp h).elim (fun h => List.all_eq_true.mp sites_7_ok q h) ((fun q h => (List.mem_append.mp h).elim (fun h => List.all_eq_true.mp sites_8_ok q h) ((fun q h => List.all_eq_true.mp sites_9_ok q h) q)) q)) q)) q)) q)) q)) q)) q)) q)
theorem oi_1 : Cond.instanceMethod Lib.objectInit ∈ ALL := hasW_mem (i := 98) (by decide +kernel)
theorem oi_2 : Cond.code Lib.objectInit ⟨#[0xb1]⟩ 1 none ∈ ALL := hasW_mem (i := 99) (by decide +kernel)
theorem ac_1 : Cond.native arraycopyName ∈ ALL := hasW_mem (i := 594) (by decide +kernel)
theorem ac_2 : Cond.static arraycopyName ∈ ALL := hasW_mem (i := 593) (by decide +kernel)
theorem ac_3 : Cond.initialized "java/lang/System" ∈ ALL := hasW_mem (i := 86) (by decide +kernel)
def news : List ((Nat × Nat) × Nat × Nat × Nat × Nat) := [((7, 7), 8, 285, 205, 74), ((8, 17), 3, 262, 263, 77), ((8, 33), 8, 278, 205, 74), ((8, 9), 2, 260, 280, 78), ((9, 7), 8, 396, 205, 74), ((10, 9), 9, 180, 181, 73), ((10, 18), 8, 204, 205, 74), ((10, 39), 4, 237, 238, 75), ((10, 27), 5, 233, 255, 76), ((10, 33), 0, 235, 391, 79), ((13, 7), 13, 100, 101, 68), ((13, 19), 7, 132, 133, 71), ((13, 28), 10, 174, 175, 72), ((13, 35), 6, 486, 487, 80), ((13, 44), 1, 499, 500, 81), ((22, 7), 11, 92, 93, 66), ((22, 10), 12, 1291, 1292, 82)]
def newOK (q : (Nat × Nat) × Nat × Nat × Nat × Nat) : Bool := match classes[q.2.1]? with
  | some r => hasW q.2.2.1 (.classLink (oN q.1.1) q.1.2 r.1) && hasW q.2.2.2.1 (.instantiable r.1 r.2.2) && hasW q.2.2.2.2 (.initialized r.1)
  | none => false
theorem news_ok : news.all newOK = true := by decide +kernel
def anews : List ((Nat × Nat) × Nat × Nat × Nat) := [((8, 9), 104, 260, 261), ((10, 27), 105, 233, 234), ((10, 33), 103, 235, 236)]
def akC (k : Nat) : String := match k with
  | 103 => RX0
  | 104 => RX2
  | _ => RX5
def anewOK (q : (Nat × Nat) × Nat × Nat × Nat) : Bool := hasW q.2.2.1 (.classLink (oN q.1.1) q.1.2 (akC q.2.1)) && hasX q.2.2.2 (.arrayOver (.object (akC q.2.1)))
theorem anews_ok : anews.all anewOK = true := by decide +kernel
def ldcsI : List ((Nat × Nat) × Int32 × Nat) := [((14, 147), 40000, 1297), ((16, 200), 2147483639, 574), ((0, 39), 2147483647, 578), ((13, 51), (-1000000002), 544), ((13, 56), (-1000000003), 552), ((14, 207), (-1000000002), 1550), ((14, 211), (-1000000003), 1551), ((13, 87), (-1000000004), 870), ((14, 274), (-1000000004), 1591), ((5, 13), 131071, 1042), ((13, 123), (-1000000005), 1103), ((14, 376), (-1000000005), 1723), ((13, 137), (-1000000001), 1121), ((14, 309), (-1000000001), 1604)]
theorem ldcsI_ok : ldcsI.all (fun q => hasW q.2.2 (.constant (oN q.1.1) q.1.2 q.2.1)) = true := by decide +kernel
def ldcsL : List ((Nat × Nat) × Int64 × Nat) := [((5, 36), 100, 1186), ((14, 310), 100, 1605)]
theorem ldcsL_ok : ldcsL.all (fun q => hasW q.2.2 (.constantLong (oN q.1.1) q.1.2 q.2.1)) = true := by decide +kernel
def ldcsS : List (Nat × Nat) := [(2, 65), (13, 307)]
def statN (k : Nat) : String × String × String := match k with
  | 0 => ("java/lang/String", "COMPACT_STRINGS", "Z")
  | 1 => ("jdk/internal/util/Preconditions", "SIOOBE_FORMATTER", "Ljava/util/function/BiFunction;")
  | 2 => ("java/lang/Integer", "DigitOnes", "[B")
  | _ => ("java/lang/Integer", "DigitTens", "[B")
def stats : List ((Nat × Nat) × Nat × Nat) := [((0, 18), 0, 109), ((20, 1053), 1, 622), ((20, 38), 0, 694), ((21, 83), 2, 1267), ((21, 87), 3, 1269)]
theorem stats_ok : stats.all (fun q => hasW q.2.2 (.fieldLink (oN q.1.1) q.1.2 (statN q.2.1).1 (statN q.2.1).2.1 (statN q.2.1).2.2)) = true := by decide +kernel
def sflds : List ((Nat × Nat) × Nat × Nat) := [((20, 15), 1, 1816), ((20, 9), 0, 1817)]
theorem sflds_ok : sflds.all (fun q => hasW q.2.2 (if q.2.1 = 0 then .fieldLink (oN q.1.1) q.1.2 "java/lang/String" "value" "[B" else .fieldLink (oN q.1.1) q.1.2 "java/lang/String" "coder" "B")) = true := by decide +kernel
