-- ===== PART A: goes FIRST, ahead of the names: the tables' words, and 'selects' of the private methods out of them =====
/-- a private method of a class that the tables say can be made, by its rows of tables_1 -/
def lw_okq (q : MethodName × Nat) : Prop := (q.1.cls ≠ "java/lang/invoke/MethodHandle" ∧ q.1.cls ≠ "java/lang/invoke/VarHandle") ∧ Cond.instantiable q.1.cls q.2 ∈ tables_1 ∧ Cond.privateMethod q.1 ∈ tables_1 ∧ Cond.instanceMethod q.1 ∈ tables_1
theorem lw_p0 : lw_okq (⟨"PipelineSimulator$Reader", "sign", "()I"⟩, 9) := ⟨⟨by decide +kernel, by decide +kernel⟩, List.mem_of_getElem? (i := 68) (by decide +kernel), List.mem_of_getElem? (i := 592) (by decide +kernel), List.mem_of_getElem? (i := 593) (by decide +kernel)⟩
theorem lw_p1 : lw_okq (⟨"PipelineSimulator$Reader", "readStages", "()Z"⟩, 9) := ⟨⟨by decide +kernel, by decide +kernel⟩, List.mem_of_getElem? (i := 68) (by decide +kernel), List.mem_of_getElem? (i := 609) (by decide +kernel), List.mem_of_getElem? (i := 610) (by decide +kernel)⟩
theorem lw_p2 : lw_okq (⟨"PipelineSimulator$Reader", "readStage", "(I)Z"⟩, 9) := ⟨⟨by decide +kernel, by decide +kernel⟩, List.mem_of_getElem? (i := 68) (by decide +kernel), List.mem_of_getElem? (i := 613) (by decide +kernel), List.mem_of_getElem? (i := 614) (by decide +kernel)⟩
theorem lw_p3 : lw_okq (⟨"PipelineSimulator$Reader", "skip", "(C)Z"⟩, 9) := ⟨⟨by decide +kernel, by decide +kernel⟩, List.mem_of_getElem? (i := 68) (by decide +kernel), List.mem_of_getElem? (i := 689) (by decide +kernel), List.mem_of_getElem? (i := 690) (by decide +kernel)⟩
theorem lw_p4 : lw_okq (⟨"PipelineSimulator$Reader", "readNumber", "()Z"⟩, 9) := ⟨⟨by decide +kernel, by decide +kernel⟩, List.mem_of_getElem? (i := 68) (by decide +kernel), List.mem_of_getElem? (i := 693) (by decide +kernel), List.mem_of_getElem? (i := 694) (by decide +kernel)⟩
theorem lw_p5 : lw_okq (⟨"PipelineSimulator$Reader", "atDigit", "()Z"⟩, 9) := ⟨⟨by decide +kernel, by decide +kernel⟩, List.mem_of_getElem? (i := 68) (by decide +kernel), List.mem_of_getElem? (i := 697) (by decide +kernel), List.mem_of_getElem? (i := 698) (by decide +kernel)⟩
theorem lw_p6 : lw_okq (⟨"PipelineSimulator$Reader", "inRange", "(I)Z"⟩, 9) := ⟨⟨by decide +kernel, by decide +kernel⟩, List.mem_of_getElem? (i := 68) (by decide +kernel), List.mem_of_getElem? (i := 701) (by decide +kernel), List.mem_of_getElem? (i := 702) (by decide +kernel)⟩
theorem lw_p7 : lw_okq (⟨"PipelineSimulator$Reader", "readInstances", "()I"⟩, 9) := ⟨⟨by decide +kernel, by decide +kernel⟩, List.mem_of_getElem? (i := 68) (by decide +kernel), List.mem_of_getElem? (i := 705) (by decide +kernel), List.mem_of_getElem? (i := 706) (by decide +kernel)⟩
theorem lw_p8 : lw_okq (⟨"PipelineSimulator$Reader", "atInstances", "()Z"⟩, 9) := ⟨⟨by decide +kernel, by decide +kernel⟩, List.mem_of_getElem? (i := 68) (by decide +kernel), List.mem_of_getElem? (i := 709) (by decide +kernel), List.mem_of_getElem? (i := 710) (by decide +kernel)⟩
theorem lw_p9 : lw_okq (⟨"PipelineSimulator$Simulation", "returnToSaved", "()V"⟩, 15) := ⟨⟨by decide +kernel, by decide +kernel⟩, List.mem_of_getElem? (i := 110) (by decide +kernel), List.mem_of_getElem? (i := 770) (by decide +kernel), List.mem_of_getElem? (i := 771) (by decide +kernel)⟩
theorem lw_p10 : lw_okq (⟨"PipelineSimulator$Channel", "closeOpen", "()V"⟩, 7) := ⟨⟨by decide +kernel, by decide +kernel⟩, List.mem_of_getElem? (i := 326) (by decide +kernel), List.mem_of_getElem? (i := 859) (by decide +kernel), List.mem_of_getElem? (i := 860) (by decide +kernel)⟩
theorem lw_p11 : lw_okq (⟨"PipelineSimulator$Channel", "enqueue", "(I)V"⟩, 7) := ⟨⟨by decide +kernel, by decide +kernel⟩, List.mem_of_getElem? (i := 326) (by decide +kernel), List.mem_of_getElem? (i := 863) (by decide +kernel), List.mem_of_getElem? (i := 864) (by decide +kernel)⟩
theorem lw_p12 : lw_okq (⟨"PipelineSimulator$Simulation", "work", "(II)V"⟩, 15) := ⟨⟨by decide +kernel, by decide +kernel⟩, List.mem_of_getElem? (i := 110) (by decide +kernel), List.mem_of_getElem? (i := 867) (by decide +kernel), List.mem_of_getElem? (i := 868) (by decide +kernel)⟩
theorem lw_p13 : lw_okq (⟨"PipelineSimulator$Simulation", "sendList", "(IILPipelineSimulator$Instance;)Z"⟩, 15) := ⟨⟨by decide +kernel, by decide +kernel⟩, List.mem_of_getElem? (i := 110) (by decide +kernel), List.mem_of_getElem? (i := 871) (by decide +kernel), List.mem_of_getElem? (i := 872) (by decide +kernel)⟩
theorem lw_p14 : lw_okq (⟨"PipelineSimulator$Simulation", "sendBarrier", "(IILPipelineSimulator$Instance;)Z"⟩, 15) := ⟨⟨by decide +kernel, by decide +kernel⟩, List.mem_of_getElem? (i := 110) (by decide +kernel), List.mem_of_getElem? (i := 919) (by decide +kernel), List.mem_of_getElem? (i := 920) (by decide +kernel)⟩
theorem lw_p15 : lw_okq (⟨"PipelineSimulator$Simulation", "takeInput", "(LPipelineSimulator$Operator;LPipelineSimulator$Instance;)Z"⟩, 15) := ⟨⟨by decide +kernel, by decide +kernel⟩, List.mem_of_getElem? (i := 110) (by decide +kernel), List.mem_of_getElem? (i := 935) (by decide +kernel), List.mem_of_getElem? (i := 936) (by decide +kernel)⟩
def lw_privs_1 : List (MethodName × Nat) := [(⟨"PipelineSimulator$Reader", "sign", "()I"⟩, 9), (⟨"PipelineSimulator$Reader", "readStages", "()Z"⟩, 9), (⟨"PipelineSimulator$Reader", "readStage", "(I)Z"⟩, 9), (⟨"PipelineSimulator$Reader", "skip", "(C)Z"⟩, 9), (⟨"PipelineSimulator$Reader", "readNumber", "()Z"⟩, 9), (⟨"PipelineSimulator$Reader", "atDigit", "()Z"⟩, 9), (⟨"PipelineSimulator$Reader", "inRange", "(I)Z"⟩, 9), (⟨"PipelineSimulator$Reader", "readInstances", "()I"⟩, 9), (⟨"PipelineSimulator$Reader", "atInstances", "()Z"⟩, 9), (⟨"PipelineSimulator$Simulation", "returnToSaved", "()V"⟩, 15), (⟨"PipelineSimulator$Channel", "closeOpen", "()V"⟩, 7), (⟨"PipelineSimulator$Channel", "enqueue", "(I)V"⟩, 7), (⟨"PipelineSimulator$Simulation", "work", "(II)V"⟩, 15), (⟨"PipelineSimulator$Simulation", "sendList", "(IILPipelineSimulator$Instance;)Z"⟩, 15), (⟨"PipelineSimulator$Simulation", "sendBarrier", "(IILPipelineSimulator$Instance;)Z"⟩, 15), (⟨"PipelineSimulator$Simulation", "takeInput", "(LPipelineSimulator$Operator;LPipelineSimulator$Instance;)Z"⟩, 15)]
theorem lw_r1 : ∀ q ∈ lw_privs_1, lw_okq q := List.forall_mem_cons.mpr ⟨lw_p0, List.forall_mem_cons.mpr ⟨lw_p1, List.forall_mem_cons.mpr ⟨lw_p2, List.forall_mem_cons.mpr ⟨lw_p3, List.forall_mem_cons.mpr ⟨lw_p4, List.forall_mem_cons.mpr ⟨lw_p5, List.forall_mem_cons.mpr ⟨lw_p6, List.forall_mem_cons.mpr ⟨lw_p7, List.forall_mem_cons.mpr ⟨lw_p8, List.forall_mem_cons.mpr ⟨lw_p9, List.forall_mem_cons.mpr ⟨lw_p10, List.forall_mem_cons.mpr ⟨lw_p11, List.forall_mem_cons.mpr ⟨lw_p12, List.forall_mem_cons.mpr ⟨lw_p13, List.forall_mem_cons.mpr ⟨lw_p14, List.forall_mem_cons.mpr ⟨lw_p15, fun _ h => absurd h List.not_mem_nil⟩⟩⟩⟩⟩⟩⟩⟩⟩⟩⟩⟩⟩⟩⟩⟩
theorem lw_p16 : lw_okq (⟨"PipelineSimulator$Simulation", "takeItem", "(IILPipelineSimulator$Operator;LPipelineSimulator$Instance;)Z"⟩, 15) := ⟨⟨by decide +kernel, by decide +kernel⟩, List.mem_of_getElem? (i := 110) (by decide +kernel), List.mem_of_getElem? (i := 940) (by decide +kernel), List.mem_of_getElem? (i := 941) (by decide +kernel)⟩
theorem lw_p17 : lw_okq (⟨"PipelineSimulator$Simulation", "saveInstance", "(ILPipelineSimulator$Operator;LPipelineSimulator$Instance;)V"⟩, 15) := ⟨⟨by decide +kernel, by decide +kernel⟩, List.mem_of_getElem? (i := 110) (by decide +kernel), List.mem_of_getElem? (i := 961) (by decide +kernel), List.mem_of_getElem? (i := 962) (by decide +kernel)⟩
theorem lw_p18 : lw_okq (⟨"PipelineSimulator$Operator", "passes", "(I)Z"⟩, 14) := ⟨⟨by decide +kernel, by decide +kernel⟩, List.mem_of_getElem? (i := 190) (by decide +kernel), List.mem_of_getElem? (i := 994) (by decide +kernel), List.mem_of_getElem? (i := 995) (by decide +kernel)⟩
theorem lw_p19 : lw_okq (⟨"PipelineSimulator$Operator", "addToSum", "(LPipelineSimulator$Keyed;IIILPipelineSimulator$Records;)V"⟩, 14) := ⟨⟨by decide +kernel, by decide +kernel⟩, List.mem_of_getElem? (i := 190) (by decide +kernel), List.mem_of_getElem? (i := 999) (by decide +kernel), List.mem_of_getElem? (i := 1000) (by decide +kernel)⟩
theorem lw_p20 : lw_okq (⟨"PipelineSimulator$Simulation", "completeCheckpoint", "()V"⟩, 15) := ⟨⟨by decide +kernel, by decide +kernel⟩, List.mem_of_getElem? (i := 110) (by decide +kernel), List.mem_of_getElem? (i := 1023) (by decide +kernel), List.mem_of_getElem? (i := 1024) (by decide +kernel)⟩
theorem lw_p21 : lw_okq (⟨"PipelineSimulator$Explanation", "reasonOf", "(II)I"⟩, 4) := ⟨⟨by decide +kernel, by decide +kernel⟩, List.mem_of_getElem? (i := 435) (by decide +kernel), List.mem_of_getElem? (i := 1147) (by decide +kernel), List.mem_of_getElem? (i := 1148) (by decide +kernel)⟩
theorem lw_p22 : lw_okq (⟨"PipelineSimulator$Explanation", "awaited", "(III)I"⟩, 4) := ⟨⟨by decide +kernel, by decide +kernel⟩, List.mem_of_getElem? (i := 435) (by decide +kernel), List.mem_of_getElem? (i := 1157) (by decide +kernel), List.mem_of_getElem? (i := 1158) (by decide +kernel)⟩
theorem lw_p23 : lw_okq (⟨"PipelineSimulator", "writeStage", "(LPipelineSimulator$Operator;)V"⟩, 6) := ⟨⟨by decide +kernel, by decide +kernel⟩, List.mem_of_getElem? (i := 28) (by decide +kernel), List.mem_of_getElem? (i := 1172) (by decide +kernel), List.mem_of_getElem? (i := 1173) (by decide +kernel)⟩
theorem lw_p24 : lw_okq (⟨"PipelineSimulatorModel", "here", "()I"⟩, 81) := ⟨⟨by decide +kernel, by decide +kernel⟩, List.mem_of_getElem? (i := 1227) (by decide +kernel), List.mem_of_getElem? (i := 1492) (by decide +kernel), List.mem_of_getElem? (i := 1493) (by decide +kernel)⟩
theorem lw_p25 : lw_okq (⟨"PipelineSimulatorModel", "stage", "(I)V"⟩, 81) := ⟨⟨by decide +kernel, by decide +kernel⟩, List.mem_of_getElem? (i := 1227) (by decide +kernel), List.mem_of_getElem? (i := 1496) (by decide +kernel), List.mem_of_getElem? (i := 1497) (by decide +kernel)⟩
theorem lw_p26 : lw_okq (⟨"PipelineSimulatorModel", "sign", "(I)V"⟩, 81) := ⟨⟨by decide +kernel, by decide +kernel⟩, List.mem_of_getElem? (i := 1227) (by decide +kernel), List.mem_of_getElem? (i := 1503) (by decide +kernel), List.mem_of_getElem? (i := 1504) (by decide +kernel)⟩
theorem lw_p27 : lw_okq (⟨"PipelineSimulatorModel", "number", "(II)I"⟩, 81) := ⟨⟨by decide +kernel, by decide +kernel⟩, List.mem_of_getElem? (i := 1227) (by decide +kernel), List.mem_of_getElem? (i := 1507) (by decide +kernel), List.mem_of_getElem? (i := 1508) (by decide +kernel)⟩
theorem lw_p28 : lw_okq (⟨"PipelineSimulatorModel", "instances", "()I"⟩, 81) := ⟨⟨by decide +kernel, by decide +kernel⟩, List.mem_of_getElem? (i := 1227) (by decide +kernel), List.mem_of_getElem? (i := 1511) (by decide +kernel), List.mem_of_getElem? (i := 1512) (by decide +kernel)⟩
theorem lw_p29 : lw_okq (⟨"PipelineSimulatorModel", "begins", "()V"⟩, 81) := ⟨⟨by decide +kernel, by decide +kernel⟩, List.mem_of_getElem? (i := 1227) (by decide +kernel), List.mem_of_getElem? (i := 1515) (by decide +kernel), List.mem_of_getElem? (i := 1516) (by decide +kernel)⟩
theorem lw_p30 : lw_okq (⟨"PipelineSimulatorModel", "breaks", "()V"⟩, 81) := ⟨⟨by decide +kernel, by decide +kernel⟩, List.mem_of_getElem? (i := 1227) (by decide +kernel), List.mem_of_getElem? (i := 1519) (by decide +kernel), List.mem_of_getElem? (i := 1520) (by decide +kernel)⟩
theorem lw_p31 : lw_okq (⟨"PipelineSimulatorModel", "quiet", "()Z"⟩, 81) := ⟨⟨by decide +kernel, by decide +kernel⟩, List.mem_of_getElem? (i := 1227) (by decide +kernel), List.mem_of_getElem? (i := 1546) (by decide +kernel), List.mem_of_getElem? (i := 1547) (by decide +kernel)⟩
def lw_privs_2 : List (MethodName × Nat) := [(⟨"PipelineSimulator$Simulation", "takeItem", "(IILPipelineSimulator$Operator;LPipelineSimulator$Instance;)Z"⟩, 15), (⟨"PipelineSimulator$Simulation", "saveInstance", "(ILPipelineSimulator$Operator;LPipelineSimulator$Instance;)V"⟩, 15), (⟨"PipelineSimulator$Operator", "passes", "(I)Z"⟩, 14), (⟨"PipelineSimulator$Operator", "addToSum", "(LPipelineSimulator$Keyed;IIILPipelineSimulator$Records;)V"⟩, 14), (⟨"PipelineSimulator$Simulation", "completeCheckpoint", "()V"⟩, 15), (⟨"PipelineSimulator$Explanation", "reasonOf", "(II)I"⟩, 4), (⟨"PipelineSimulator$Explanation", "awaited", "(III)I"⟩, 4), (⟨"PipelineSimulator", "writeStage", "(LPipelineSimulator$Operator;)V"⟩, 6), (⟨"PipelineSimulatorModel", "here", "()I"⟩, 81), (⟨"PipelineSimulatorModel", "stage", "(I)V"⟩, 81), (⟨"PipelineSimulatorModel", "sign", "(I)V"⟩, 81), (⟨"PipelineSimulatorModel", "number", "(II)I"⟩, 81), (⟨"PipelineSimulatorModel", "instances", "()I"⟩, 81), (⟨"PipelineSimulatorModel", "begins", "()V"⟩, 81), (⟨"PipelineSimulatorModel", "breaks", "()V"⟩, 81), (⟨"PipelineSimulatorModel", "quiet", "()Z"⟩, 81)]
theorem lw_r2 : ∀ q ∈ lw_privs_2, lw_okq q := List.forall_mem_cons.mpr ⟨lw_p16, List.forall_mem_cons.mpr ⟨lw_p17, List.forall_mem_cons.mpr ⟨lw_p18, List.forall_mem_cons.mpr ⟨lw_p19, List.forall_mem_cons.mpr ⟨lw_p20, List.forall_mem_cons.mpr ⟨lw_p21, List.forall_mem_cons.mpr ⟨lw_p22, List.forall_mem_cons.mpr ⟨lw_p23, List.forall_mem_cons.mpr ⟨lw_p24, List.forall_mem_cons.mpr ⟨lw_p25, List.forall_mem_cons.mpr ⟨lw_p26, List.forall_mem_cons.mpr ⟨lw_p27, List.forall_mem_cons.mpr ⟨lw_p28, List.forall_mem_cons.mpr ⟨lw_p29, List.forall_mem_cons.mpr ⟨lw_p30, List.forall_mem_cons.mpr ⟨lw_p31, fun _ h => absurd h List.not_mem_nil⟩⟩⟩⟩⟩⟩⟩⟩⟩⟩⟩⟩⟩⟩⟩⟩
theorem lw_p32 : lw_okq (⟨"PipelineSimulatorModel", "ticks", "()V"⟩, 81) := ⟨⟨by decide +kernel, by decide +kernel⟩, List.mem_of_getElem? (i := 1227) (by decide +kernel), List.mem_of_getElem? (i := 1550) (by decide +kernel), List.mem_of_getElem? (i := 1551) (by decide +kernel)⟩
theorem lw_p33 : lw_okq (⟨"PipelineSimulatorModel", "closes", "(I)V"⟩, 81) := ⟨⟨by decide +kernel, by decide +kernel⟩, List.mem_of_getElem? (i := 1227) (by decide +kernel), List.mem_of_getElem? (i := 1554) (by decide +kernel), List.mem_of_getElem? (i := 1555) (by decide +kernel)⟩
theorem lw_p34 : lw_okq (⟨"PipelineSimulatorModel", "sink", "()I"⟩, 81) := ⟨⟨by decide +kernel, by decide +kernel⟩, List.mem_of_getElem? (i := 1227) (by decide +kernel), List.mem_of_getElem? (i := 1558) (by decide +kernel), List.mem_of_getElem? (i := 1559) (by decide +kernel)⟩
theorem lw_p35 : lw_okq (⟨"PipelineSimulatorModel", "works", "(II)V"⟩, 81) := ⟨⟨by decide +kernel, by decide +kernel⟩, List.mem_of_getElem? (i := 1227) (by decide +kernel), List.mem_of_getElem? (i := 1562) (by decide +kernel), List.mem_of_getElem? (i := 1563) (by decide +kernel)⟩
theorem lw_p36 : lw_okq (⟨"PipelineSimulatorModel", "sends", "(II)Z"⟩, 81) := ⟨⟨by decide +kernel, by decide +kernel⟩, List.mem_of_getElem? (i := 1227) (by decide +kernel), List.mem_of_getElem? (i := 1566) (by decide +kernel), List.mem_of_getElem? (i := 1567) (by decide +kernel)⟩
theorem lw_p37 : lw_okq (⟨"PipelineSimulatorModel", "goal", "(III)I"⟩, 81) := ⟨⟨by decide +kernel, by decide +kernel⟩, List.mem_of_getElem? (i := 1227) (by decide +kernel), List.mem_of_getElem? (i := 1573) (by decide +kernel), List.mem_of_getElem? (i := 1574) (by decide +kernel)⟩
theorem lw_p38 : lw_okq (⟨"PipelineSimulatorModel", "isKeyed", "(I)Z"⟩, 81) := ⟨⟨by decide +kernel, by decide +kernel⟩, List.mem_of_getElem? (i := 1227) (by decide +kernel), List.mem_of_getElem? (i := 1577) (by decide +kernel), List.mem_of_getElem? (i := 1578) (by decide +kernel)⟩
theorem lw_p39 : lw_okq (⟨"PipelineSimulatorModel", "home", "(II)I"⟩, 81) := ⟨⟨by decide +kernel, by decide +kernel⟩, List.mem_of_getElem? (i := 1227) (by decide +kernel), List.mem_of_getElem? (i := 1581) (by decide +kernel), List.mem_of_getElem? (i := 1582) (by decide +kernel)⟩
theorem lw_p40 : lw_okq (⟨"PipelineSimulatorModel", "takesRecord", "(I)Z"⟩, 81) := ⟨⟨by decide +kernel, by decide +kernel⟩, List.mem_of_getElem? (i := 1227) (by decide +kernel), List.mem_of_getElem? (i := 1588) (by decide +kernel), List.mem_of_getElem? (i := 1589) (by decide +kernel)⟩
theorem lw_p41 : lw_okq (⟨"PipelineSimulatorModel", "puts", "(IIII)V"⟩, 81) := ⟨⟨by decide +kernel, by decide +kernel⟩, List.mem_of_getElem? (i := 1227) (by decide +kernel), List.mem_of_getElem? (i := 1592) (by decide +kernel), List.mem_of_getElem? (i := 1593) (by decide +kernel)⟩
theorem lw_p42 : lw_okq (⟨"PipelineSimulatorModel", "refusing", "(II)I"⟩, 81) := ⟨⟨by decide +kernel, by decide +kernel⟩, List.mem_of_getElem? (i := 1227) (by decide +kernel), List.mem_of_getElem? (i := 1596) (by decide +kernel), List.mem_of_getElem? (i := 1597) (by decide +kernel)⟩
theorem lw_p43 : lw_okq (⟨"PipelineSimulatorModel", "takesBarrier", "(I)Z"⟩, 81) := ⟨⟨by decide +kernel, by decide +kernel⟩, List.mem_of_getElem? (i := 1227) (by decide +kernel), List.mem_of_getElem? (i := 1600) (by decide +kernel), List.mem_of_getElem? (i := 1601) (by decide +kernel)⟩
theorem lw_p44 : lw_okq (⟨"PipelineSimulatorModel", "putsBarrier", "(I)V"⟩, 81) := ⟨⟨by decide +kernel, by decide +kernel⟩, List.mem_of_getElem? (i := 1227) (by decide +kernel), List.mem_of_getElem? (i := 1604) (by decide +kernel), List.mem_of_getElem? (i := 1605) (by decide +kernel)⟩
theorem lw_p45 : lw_okq (⟨"PipelineSimulatorModel", "takes", "(II)Z"⟩, 81) := ⟨⟨by decide +kernel, by decide +kernel⟩, List.mem_of_getElem? (i := 1227) (by decide +kernel), List.mem_of_getElem? (i := 1608) (by decide +kernel), List.mem_of_getElem? (i := 1609) (by decide +kernel)⟩
theorem lw_p46 : lw_okq (⟨"PipelineSimulatorModel", "emits", "(IIIII)V"⟩, 81) := ⟨⟨by decide +kernel, by decide +kernel⟩, List.mem_of_getElem? (i := 1227) (by decide +kernel), List.mem_of_getElem? (i := 1612) (by decide +kernel), List.mem_of_getElem? (i := 1613) (by decide +kernel)⟩
theorem lw_p47 : lw_okq (⟨"PipelineSimulatorModel", "ready", "(II)I"⟩, 81) := ⟨⟨by decide +kernel, by decide +kernel⟩, List.mem_of_getElem? (i := 1227) (by decide +kernel), List.mem_of_getElem? (i := 1616) (by decide +kernel), List.mem_of_getElem? (i := 1617) (by decide +kernel)⟩
def lw_privs_3 : List (MethodName × Nat) := [(⟨"PipelineSimulatorModel", "ticks", "()V"⟩, 81), (⟨"PipelineSimulatorModel", "closes", "(I)V"⟩, 81), (⟨"PipelineSimulatorModel", "sink", "()I"⟩, 81), (⟨"PipelineSimulatorModel", "works", "(II)V"⟩, 81), (⟨"PipelineSimulatorModel", "sends", "(II)Z"⟩, 81), (⟨"PipelineSimulatorModel", "goal", "(III)I"⟩, 81), (⟨"PipelineSimulatorModel", "isKeyed", "(I)Z"⟩, 81), (⟨"PipelineSimulatorModel", "home", "(II)I"⟩, 81), (⟨"PipelineSimulatorModel", "takesRecord", "(I)Z"⟩, 81), (⟨"PipelineSimulatorModel", "puts", "(IIII)V"⟩, 81), (⟨"PipelineSimulatorModel", "refusing", "(II)I"⟩, 81), (⟨"PipelineSimulatorModel", "takesBarrier", "(I)Z"⟩, 81), (⟨"PipelineSimulatorModel", "putsBarrier", "(I)V"⟩, 81), (⟨"PipelineSimulatorModel", "takes", "(II)Z"⟩, 81), (⟨"PipelineSimulatorModel", "emits", "(IIIII)V"⟩, 81), (⟨"PipelineSimulatorModel", "ready", "(II)I"⟩, 81)]
theorem lw_r3 : ∀ q ∈ lw_privs_3, lw_okq q := List.forall_mem_cons.mpr ⟨lw_p32, List.forall_mem_cons.mpr ⟨lw_p33, List.forall_mem_cons.mpr ⟨lw_p34, List.forall_mem_cons.mpr ⟨lw_p35, List.forall_mem_cons.mpr ⟨lw_p36, List.forall_mem_cons.mpr ⟨lw_p37, List.forall_mem_cons.mpr ⟨lw_p38, List.forall_mem_cons.mpr ⟨lw_p39, List.forall_mem_cons.mpr ⟨lw_p40, List.forall_mem_cons.mpr ⟨lw_p41, List.forall_mem_cons.mpr ⟨lw_p42, List.forall_mem_cons.mpr ⟨lw_p43, List.forall_mem_cons.mpr ⟨lw_p44, List.forall_mem_cons.mpr ⟨lw_p45, List.forall_mem_cons.mpr ⟨lw_p46, List.forall_mem_cons.mpr ⟨lw_p47, fun _ h => absurd h List.not_mem_nil⟩⟩⟩⟩⟩⟩⟩⟩⟩⟩⟩⟩⟩⟩⟩⟩
theorem lw_p48 : lw_okq (⟨"PipelineSimulatorModel", "pops", "(I)V"⟩, 81) := ⟨⟨by decide +kernel, by decide +kernel⟩, List.mem_of_getElem? (i := 1227) (by decide +kernel), List.mem_of_getElem? (i := 1620) (by decide +kernel), List.mem_of_getElem? (i := 1621) (by decide +kernel)⟩
theorem lw_p49 : lw_okq (⟨"PipelineSimulatorModel", "barrier", "(III)V"⟩, 81) := ⟨⟨by decide +kernel, by decide +kernel⟩, List.mem_of_getElem? (i := 1227) (by decide +kernel), List.mem_of_getElem? (i := 1624) (by decide +kernel), List.mem_of_getElem? (i := 1625) (by decide +kernel)⟩
theorem lw_p50 : lw_okq (⟨"PipelineSimulatorModel", "saves", "(II)V"⟩, 81) := ⟨⟨by decide +kernel, by decide +kernel⟩, List.mem_of_getElem? (i := 1227) (by decide +kernel), List.mem_of_getElem? (i := 1628) (by decide +kernel), List.mem_of_getElem? (i := 1629) (by decide +kernel)⟩
theorem lw_p51 : lw_okq (⟨"PipelineSimulatorModel", "completes", "()V"⟩, 81) := ⟨⟨by decide +kernel, by decide +kernel⟩, List.mem_of_getElem? (i := 1227) (by decide +kernel), List.mem_of_getElem? (i := 1632) (by decide +kernel), List.mem_of_getElem? (i := 1633) (by decide +kernel)⟩
theorem lw_p52 : lw_okq (⟨"PipelineSimulatorModel", "takesIn", "(IIIII)V"⟩, 81) := ⟨⟨by decide +kernel, by decide +kernel⟩, List.mem_of_getElem? (i := 1227) (by decide +kernel), List.mem_of_getElem? (i := 1636) (by decide +kernel), List.mem_of_getElem? (i := 1637) (by decide +kernel)⟩
theorem lw_p53 : lw_okq (⟨"PipelineSimulatorModel", "processes", "(III[Z[I[I)V"⟩, 81) := ⟨⟨by decide +kernel, by decide +kernel⟩, List.mem_of_getElem? (i := 1227) (by decide +kernel), List.mem_of_getElem? (i := 1640) (by decide +kernel), List.mem_of_getElem? (i := 1641) (by decide +kernel)⟩
theorem lw_p54 : lw_okq (⟨"PipelineSimulatorModel", "gives", "(II)V"⟩, 81) := ⟨⟨by decide +kernel, by decide +kernel⟩, List.mem_of_getElem? (i := 1227) (by decide +kernel), List.mem_of_getElem? (i := 1644) (by decide +kernel), List.mem_of_getElem? (i := 1645) (by decide +kernel)⟩
theorem lw_p55 : lw_okq (⟨"PipelineSimulatorModel", "isOperator", "(I)Z"⟩, 81) := ⟨⟨by decide +kernel, by decide +kernel⟩, List.mem_of_getElem? (i := 1227) (by decide +kernel), List.mem_of_getElem? (i := 1668) (by decide +kernel), List.mem_of_getElem? (i := 1669) (by decide +kernel)⟩
theorem lw_p56 : lw_okq (⟨"PipelineSimulatorModel", "inside", "(I)I"⟩, 81) := ⟨⟨by decide +kernel, by decide +kernel⟩, List.mem_of_getElem? (i := 1227) (by decide +kernel), List.mem_of_getElem? (i := 1676) (by decide +kernel), List.mem_of_getElem? (i := 1677) (by decide +kernel)⟩
theorem lw_p57 : lw_okq (⟨"PipelineSimulatorModel", "keysOf", "(II)I"⟩, 81) := ⟨⟨by decide +kernel, by decide +kernel⟩, List.mem_of_getElem? (i := 1227) (by decide +kernel), List.mem_of_getElem? (i := 1688) (by decide +kernel), List.mem_of_getElem? (i := 1689) (by decide +kernel)⟩
theorem lw_p58 : lw_okq (⟨"PipelineSimulatorModel", "told", "(III[Z[I[I)I"⟩, 81) := ⟨⟨by decide +kernel, by decide +kernel⟩, List.mem_of_getElem? (i := 1227) (by decide +kernel), List.mem_of_getElem? (i := 1700) (by decide +kernel), List.mem_of_getElem? (i := 1701) (by decide +kernel)⟩
theorem lw_p59 : lw_okq (⟨"PipelineSimulatorModel", "plainly", "()V"⟩, 81) := ⟨⟨by decide +kernel, by decide +kernel⟩, List.mem_of_getElem? (i := 1227) (by decide +kernel), List.mem_of_getElem? (i := 1712) (by decide +kernel), List.mem_of_getElem? (i := 1713) (by decide +kernel)⟩
theorem lw_p60 : lw_okq (⟨"PipelineSimulatorModel", "reasonOf", "(II)I"⟩, 81) := ⟨⟨by decide +kernel, by decide +kernel⟩, List.mem_of_getElem? (i := 1227) (by decide +kernel), List.mem_of_getElem? (i := 1720) (by decide +kernel), List.mem_of_getElem? (i := 1721) (by decide +kernel)⟩
theorem lw_p61 : lw_okq (⟨"PipelineSimulatorModel", "writes", "(I)V"⟩, 81) := ⟨⟨by decide +kernel, by decide +kernel⟩, List.mem_of_getElem? (i := 1227) (by decide +kernel), List.mem_of_getElem? (i := 1732) (by decide +kernel), List.mem_of_getElem? (i := 1733) (by decide +kernel)⟩
theorem lw_p62 : lw_okq (⟨"PipelineSimulatorModel", "writesNumber", "(I)V"⟩, 81) := ⟨⟨by decide +kernel, by decide +kernel⟩, List.mem_of_getElem? (i := 1227) (by decide +kernel), List.mem_of_getElem? (i := 1736) (by decide +kernel), List.mem_of_getElem? (i := 1737) (by decide +kernel)⟩
def lw_privs_4 : List (MethodName × Nat) := [(⟨"PipelineSimulatorModel", "pops", "(I)V"⟩, 81), (⟨"PipelineSimulatorModel", "barrier", "(III)V"⟩, 81), (⟨"PipelineSimulatorModel", "saves", "(II)V"⟩, 81), (⟨"PipelineSimulatorModel", "completes", "()V"⟩, 81), (⟨"PipelineSimulatorModel", "takesIn", "(IIIII)V"⟩, 81), (⟨"PipelineSimulatorModel", "processes", "(III[Z[I[I)V"⟩, 81), (⟨"PipelineSimulatorModel", "gives", "(II)V"⟩, 81), (⟨"PipelineSimulatorModel", "isOperator", "(I)Z"⟩, 81), (⟨"PipelineSimulatorModel", "inside", "(I)I"⟩, 81), (⟨"PipelineSimulatorModel", "keysOf", "(II)I"⟩, 81), (⟨"PipelineSimulatorModel", "told", "(III[Z[I[I)I"⟩, 81), (⟨"PipelineSimulatorModel", "plainly", "()V"⟩, 81), (⟨"PipelineSimulatorModel", "reasonOf", "(II)I"⟩, 81), (⟨"PipelineSimulatorModel", "writes", "(I)V"⟩, 81), (⟨"PipelineSimulatorModel", "writesNumber", "(I)V"⟩, 81)]
theorem lw_r4 : ∀ q ∈ lw_privs_4, lw_okq q := List.forall_mem_cons.mpr ⟨lw_p48, List.forall_mem_cons.mpr ⟨lw_p49, List.forall_mem_cons.mpr ⟨lw_p50, List.forall_mem_cons.mpr ⟨lw_p51, List.forall_mem_cons.mpr ⟨lw_p52, List.forall_mem_cons.mpr ⟨lw_p53, List.forall_mem_cons.mpr ⟨lw_p54, List.forall_mem_cons.mpr ⟨lw_p55, List.forall_mem_cons.mpr ⟨lw_p56, List.forall_mem_cons.mpr ⟨lw_p57, List.forall_mem_cons.mpr ⟨lw_p58, List.forall_mem_cons.mpr ⟨lw_p59, List.forall_mem_cons.mpr ⟨lw_p60, List.forall_mem_cons.mpr ⟨lw_p61, List.forall_mem_cons.mpr ⟨lw_p62, fun _ h => absurd h List.not_mem_nil⟩⟩⟩⟩⟩⟩⟩⟩⟩⟩⟩⟩⟩⟩⟩
def lw_privs : List (MethodName × Nat) := lw_privs_1 ++ (lw_privs_2 ++ (lw_privs_3 ++ (lw_privs_4)))
def lw_tbl : List Cond := k2_sels lw_privs ++ tables_1
theorem lw_privs_ok : ∀ q ∈ lw_privs, lw_okq q := by
  show ∀ q ∈ lw_privs_1 ++ (lw_privs_2 ++ (lw_privs_3 ++ (lw_privs_4))), lw_okq q
  exact List.forall_mem_append.mpr ⟨lw_r1, List.forall_mem_append.mpr ⟨lw_r2, List.forall_mem_append.mpr ⟨lw_r3, lw_r4⟩⟩⟩
-- ===== end of PART A; then your names; then what follows =====
def RX0 : String := "PipelineSimulator$Channel"
def TX0 : u_T := fun k => match k with
  | 0 => ("PipelineSimulator$Channel", "settings", "LPipelineSimulator$Settings;", true)
  | 1 => ("PipelineSimulator$Channel", "records", "LPipelineSimulator$Records;", true)
  | 2 => ("PipelineSimulator$Channel", "batches", "[I", true)
  | 3 => ("PipelineSimulator$Channel", "firstBatch", "I", false)
  | 4 => ("PipelineSimulator$Channel", "queued", "I", false)
  | 5 => ("PipelineSimulator$Channel", "open", "I", false)
  | _ => ("PipelineSimulator$Channel", "age", "I", false)
theorem nmX0 : ∀ a, a < 7 → ∀ b, b < 7 → a ≠ b → (TX0 a).2.1 ≠ (TX0 b).2.1 := by decide +kernel
def RX1 : String := "PipelineSimulator$Explanation"
def TX1 : u_T := fun k => match k with
  | 0 => ("PipelineSimulator$Explanation", "simulation", "LPipelineSimulator$Simulation;", true)
  | 1 => ("PipelineSimulator$Explanation", "places", "[I", true)
  | 2 => ("PipelineSimulator$Explanation", "reasons", "[I", true)
  | _ => ("PipelineSimulator$Explanation", "levels", "I", false)
theorem nmX1 : ∀ a, a < 4 → ∀ b, b < 4 → a ≠ b → (TX1 a).2.1 ≠ (TX1 b).2.1 := by decide +kernel
def RX2 : String := "PipelineSimulator$Instance"
def TX2 : u_T := fun k => match k with
  | 0 => ("PipelineSimulator$Instance", "list", "LPipelineSimulator$Records;", true)
  | 1 => ("PipelineSimulator$Instance", "holdsBarrier", "Z", false)
  | 2 => ("PipelineSimulator$Instance", "stopped", "I", false)
  | 3 => ("PipelineSimulator$Instance", "pointer", "I", false)
  | 4 => ("PipelineSimulator$Instance", "counter", "I", false)
  | 5 => ("PipelineSimulator$Instance", "pendingCounter", "I", false)
  | _ => ("PipelineSimulator$Instance", "savedCounter", "I", false)
theorem nmX2 : ∀ a, a < 7 → ∀ b, b < 7 → a ≠ b → (TX2 a).2.1 ≠ (TX2 b).2.1 := by decide +kernel
def RX3 : String := "PipelineSimulator$Keyed"
def TX3 : u_T := fun k => match k with
  | 0 => ("PipelineSimulator$Keyed", "first", "[I", true)
  | 1 => ("PipelineSimulator$Keyed", "second", "[I", true)
  | _ => ("PipelineSimulator$Keyed", "present", "I", false)
theorem nmX3 : ∀ a, a < 3 → ∀ b, b < 3 → a ≠ b → (TX3 a).2.1 ≠ (TX3 b).2.1 := by decide +kernel
def RX4 : String := "PipelineSimulator$Latencies"
def TX4 : u_T := fun k => match k with
  | 0 => ("PipelineSimulator$Latencies", "numbers", "[I", false)
  | 1 => ("PipelineSimulator$Latencies", "number", "I", false)
  | _ => ("PipelineSimulator$Latencies", "sum", "I", false)
theorem nmX4 : ∀ a, a < 3 → ∀ b, b < 3 → a ≠ b → (TX4 a).2.1 ≠ (TX4 b).2.1 := by decide +kernel
def RX5 : String := "PipelineSimulator$Operator"
def TX5 : u_T := fun k => match k with
  | 0 => ("PipelineSimulator$Operator", "instances", "[LPipelineSimulator$Instance;", true)
  | 1 => ("PipelineSimulator$Operator", "states", "LPipelineSimulator$Keyed;", true)
  | 2 => ("PipelineSimulator$Operator", "pending", "LPipelineSimulator$Keyed;", true)
  | 3 => ("PipelineSimulator$Operator", "saved", "LPipelineSimulator$Keyed;", true)
  | 4 => ("PipelineSimulator$Operator", "plainStates", "LPipelineSimulator$Keyed;", true)
  | 5 => ("PipelineSimulator$Operator", "plainList", "LPipelineSimulator$Records;", true)
  | 6 => ("PipelineSimulator$Operator", "kind", "I", false)
  | 7 => ("PipelineSimulator$Operator", "a", "I", false)
  | 8 => ("PipelineSimulator$Operator", "b", "I", false)
  | 9 => ("PipelineSimulator$Operator", "size", "I", false)
  | 10 => ("PipelineSimulator$Operator", "processed", "I", false)
  | 11 => ("PipelineSimulator$Operator", "emitted", "I", false)
  | 12 => ("PipelineSimulator$Operator", "blocked", "I", false)
  | _ => ("PipelineSimulator$Operator", "idle", "I", false)
theorem nmX5 : ∀ a, a < 14 → ∀ b, b < 14 → a ≠ b → (TX5 a).2.1 ≠ (TX5 b).2.1 := by decide +kernel
def RX6 : String := "PipelineSimulator$Plain"
def TX6 : u_T := fun k => match k with
  | 0 => ("PipelineSimulator$Plain", "simulation", "LPipelineSimulator$Simulation;", true)
  | _ => ("PipelineSimulator$Plain", "done", "I", false)
theorem nmX6 : ∀ a, a < 2 → ∀ b, b < 2 → a ≠ b → (TX6 a).2.1 ≠ (TX6 b).2.1 := by decide +kernel
def RX7 : String := "PipelineSimulator$Reader"
def TX7 : u_T := fun k => match k with
  | 0 => ("PipelineSimulator$Reader", "text", "Ljava/lang/StringBuilder;", true)
  | 1 => ("PipelineSimulator$Reader", "kinds", "[I", true)
  | 2 => ("PipelineSimulator$Reader", "firsts", "[I", true)
  | 3 => ("PipelineSimulator$Reader", "seconds", "[I", true)
  | 4 => ("PipelineSimulator$Reader", "sizes", "[I", true)
  | 5 => ("PipelineSimulator$Reader", "stages", "I", false)
  | 6 => ("PipelineSimulator$Reader", "sinks", "I", false)
  | 7 => ("PipelineSimulator$Reader", "position", "I", false)
  | _ => ("PipelineSimulator$Reader", "number", "I", false)
theorem nmX7 : ∀ a, a < 9 → ∀ b, b < 9 → a ≠ b → (TX7 a).2.1 ≠ (TX7 b).2.1 := by decide +kernel
def RX8 : String := "PipelineSimulator$Records"
def TX8 : u_T := fun k => match k with
  | 0 => ("PipelineSimulator$Records", "keys", "[I", true)
  | 1 => ("PipelineSimulator$Records", "values", "[I", true)
  | 2 => ("PipelineSimulator$Records", "births", "[I", true)
  | 3 => ("PipelineSimulator$Records", "mask", "I", true)
  | 4 => ("PipelineSimulator$Records", "head", "I", false)
  | _ => ("PipelineSimulator$Records", "size", "I", false)
theorem nmX8 : ∀ a, a < 6 → ∀ b, b < 6 → a ≠ b → (TX8 a).2.1 ≠ (TX8 b).2.1 := by decide +kernel
def RX9 : String := "PipelineSimulator$Settings"
def TX9 : u_T := fun k => match k with
  | 0 => ("PipelineSimulator$Settings", "size", "I", false)
  | 1 => ("PipelineSimulator$Settings", "age", "I", false)
  | 2 => ("PipelineSimulator$Settings", "credits", "I", false)
  | _ => ("PipelineSimulator$Settings", "rate", "I", false)
theorem nmX9 : ∀ a, a < 4 → ∀ b, b < 4 → a ≠ b → (TX9 a).2.1 ≠ (TX9 b).2.1 := by decide +kernel
def RX10 : String := "PipelineSimulator$Simulation"
def TX10 : u_T := fun k => match k with
  | 0 => ("PipelineSimulator$Simulation", "settings", "LPipelineSimulator$Settings;", true)
  | 1 => ("PipelineSimulator$Simulation", "input", "LPipelineSimulator$Records;", true)
  | 2 => ("PipelineSimulator$Simulation", "operators", "[LPipelineSimulator$Operator;", true)
  | 3 => ("PipelineSimulator$Simulation", "channels", "[LPipelineSimulator$Channel;", true)
  | 4 => ("PipelineSimulator$Simulation", "latencies", "LPipelineSimulator$Latencies;", true)
  | 5 => ("PipelineSimulator$Simulation", "stages", "I", false)
  | 6 => ("PipelineSimulator$Simulation", "offset", "I", false)
  | 7 => ("PipelineSimulator$Simulation", "pendingOffset", "I", false)
  | 8 => ("PipelineSimulator$Simulation", "savedOffset", "I", false)
  | 9 => ("PipelineSimulator$Simulation", "ticks", "I", false)
  | 10 => ("PipelineSimulator$Simulation", "failures", "I", false)
  | 11 => ("PipelineSimulator$Simulation", "latest", "I", false)
  | 12 => ("PipelineSimulator$Simulation", "running", "I", false)
  | 13 => ("PipelineSimulator$Simulation", "sinksToSave", "I", false)
  | _ => ("PipelineSimulator$Simulation", "begun", "Z", false)
theorem nmX10 : ∀ a, a < 15 → ∀ b, b < 15 → a ≠ b → (TX10 a).2.1 ≠ (TX10 b).2.1 := by decide +kernel
def RX11 : String := "PipelineSimulator"
def TX11 : u_T := fun k => match k with
  | 0 => ("PipelineSimulator", "text", "Ljava/lang/StringBuilder;", true)
  | 1 => ("PipelineSimulator", "writing", "Ljava/lang/StringBuilder;", true)
  | 2 => ("PipelineSimulator", "reader", "LPipelineSimulator$Reader;", true)
  | 3 => ("PipelineSimulator", "simulation", "LPipelineSimulator$Simulation;", true)
  | 4 => ("PipelineSimulator", "plainRun", "LPipelineSimulator$Plain;", true)
  | _ => ("PipelineSimulator", "latestExplanation", "LPipelineSimulator$Explanation;", true)
theorem nmX11 : ∀ a, a < 6 → ∀ b, b < 6 → a ≠ b → (TX11 a).2.1 ≠ (TX11 b).2.1 := by decide +kernel
def RX12 : String := "PipelineSimulatorModel"
def TX12 : u_T := fun k => match k with
  | 0 => ("PipelineSimulatorModel", "text", "[I", true)
  | 1 => ("PipelineSimulatorModel", "textN", "I", false)
  | 2 => ("PipelineSimulatorModel", "stages", "I", false)
  | 3 => ("PipelineSimulatorModel", "kind", "[I", true)
  | 4 => ("PipelineSimulatorModel", "a", "[I", true)
  | 5 => ("PipelineSimulatorModel", "b", "[I", true)
  | 6 => ("PipelineSimulatorModel", "p", "[I", true)
  | 7 => ("PipelineSimulatorModel", "batch", "I", false)
  | 8 => ("PipelineSimulatorModel", "oldest", "I", false)
  | 9 => ("PipelineSimulatorModel", "credits", "I", false)
  | 10 => ("PipelineSimulatorModel", "rate", "I", false)
  | 11 => ("PipelineSimulatorModel", "inputKey", "[I", true)
  | 12 => ("PipelineSimulatorModel", "inputValue", "[I", true)
  | 13 => ("PipelineSimulatorModel", "inputN", "I", false)
  | 14 => ("PipelineSimulatorModel", "offset", "I", false)
  | 15 => ("PipelineSimulatorModel", "ticks", "I", false)
  | 16 => ("PipelineSimulatorModel", "complete", "I", false)
  | 17 => ("PipelineSimulatorModel", "running", "I", false)
  | 18 => ("PipelineSimulatorModel", "failures", "I", false)
  | 19 => ("PipelineSimulatorModel", "isBegun", "Z", false)
  | 20 => ("PipelineSimulatorModel", "processed", "[I", true)
  | 21 => ("PipelineSimulatorModel", "emitted", "[I", true)
  | 22 => ("PipelineSimulatorModel", "blocked", "[I", true)
  | 23 => ("PipelineSimulatorModel", "idle", "[I", true)
  | 24 => ("PipelineSimulatorModel", "has", "[Z", true)
  | 25 => ("PipelineSimulatorModel", "runHas", "[Z", true)
  | 26 => ("PipelineSimulatorModel", "savedHas", "[Z", true)
  | 27 => ("PipelineSimulatorModel", "one", "[I", true)
  | 28 => ("PipelineSimulatorModel", "runOne", "[I", true)
  | 29 => ("PipelineSimulatorModel", "savedOne", "[I", true)
  | 30 => ("PipelineSimulatorModel", "two", "[I", true)
  | 31 => ("PipelineSimulatorModel", "runTwo", "[I", true)
  | 32 => ("PipelineSimulatorModel", "savedTwo", "[I", true)
  | 33 => ("PipelineSimulatorModel", "counter", "[I", true)
  | 34 => ("PipelineSimulatorModel", "runCounter", "[I", true)
  | 35 => ("PipelineSimulatorModel", "savedCounter", "[I", true)
  | 36 => ("PipelineSimulatorModel", "runOffset", "I", false)
  | 37 => ("PipelineSimulatorModel", "savedOffset", "I", false)
  | 38 => ("PipelineSimulatorModel", "sunk", "I", false)
  | 39 => ("PipelineSimulatorModel", "listN", "[I", true)
  | 40 => ("PipelineSimulatorModel", "listKey", "[I", true)
  | 41 => ("PipelineSimulatorModel", "listValue", "[I", true)
  | 42 => ("PipelineSimulatorModel", "listBirth", "[I", true)
  | 43 => ("PipelineSimulatorModel", "stopped", "[I", true)
  | 44 => ("PipelineSimulatorModel", "pointer", "[I", true)
  | 45 => ("PipelineSimulatorModel", "holds", "[Z", true)
  | 46 => ("PipelineSimulatorModel", "openN", "[I", true)
  | 47 => ("PipelineSimulatorModel", "age", "[I", true)
  | 48 => ("PipelineSimulatorModel", "openKey", "[I", true)
  | 49 => ("PipelineSimulatorModel", "openValue", "[I", true)
  | 50 => ("PipelineSimulatorModel", "openBirth", "[I", true)
  | 51 => ("PipelineSimulatorModel", "queueN", "[I", true)
  | 52 => ("PipelineSimulatorModel", "taken", "[I", true)
  | 53 => ("PipelineSimulatorModel", "size", "[I", true)
  | 54 => ("PipelineSimulatorModel", "queueKey", "[I", true)
  | 55 => ("PipelineSimulatorModel", "queueValue", "[I", true)
  | 56 => ("PipelineSimulatorModel", "queueBirth", "[I", true)
  | 57 => ("PipelineSimulatorModel", "late", "[I", true)
  | 58 => ("PipelineSimulatorModel", "lateN", "I", false)
  | 59 => ("PipelineSimulatorModel", "lateSum", "J", false)
  | 60 => ("PipelineSimulatorModel", "at", "I", false)
  | 61 => ("PipelineSimulatorModel", "isFaulty", "Z", false)
  | 62 => ("PipelineSimulatorModel", "newKind", "[I", true)
  | 63 => ("PipelineSimulatorModel", "newA", "[I", true)
  | 64 => ("PipelineSimulatorModel", "newB", "[I", true)
  | 65 => ("PipelineSimulatorModel", "newP", "[I", true)
  | 66 => ("PipelineSimulatorModel", "outKey", "[I", true)
  | 67 => ("PipelineSimulatorModel", "outValue", "[I", true)
  | 68 => ("PipelineSimulatorModel", "outN", "I", false)
  | 69 => ("PipelineSimulatorModel", "plainHas", "[Z", true)
  | 70 => ("PipelineSimulatorModel", "plainOne", "[I", true)
  | 71 => ("PipelineSimulatorModel", "plainTwo", "[I", true)
  | 72 => ("PipelineSimulatorModel", "waitsAt", "[I", true)
  | 73 => ("PipelineSimulatorModel", "waitsKey", "[I", true)
  | 74 => ("PipelineSimulatorModel", "waitsValue", "[I", true)
  | 75 => ("PipelineSimulatorModel", "place", "[I", true)
  | 76 => ("PipelineSimulatorModel", "reason", "[I", true)
  | 77 => ("PipelineSimulatorModel", "levels", "I", false)
  | 78 => ("PipelineSimulatorModel", "next", "I", false)
  | 79 => ("PipelineSimulatorModel", "out", "[I", true)
  | _ => ("PipelineSimulatorModel", "outLong", "I", false)
theorem nmX12 : ∀ a, a < 81 → ∀ b, b < 81 → a ≠ b → (TX12 a).2.1 ≠ (TX12 b).2.1 := by decide +kernel
def RJ4 : String := "java/lang/StringBuilder"
def TJ4 : u_T := fun k => match k with
  | 0 => ("java/lang/AbstractStringBuilder", "value", "[B", false)
  | 1 => ("java/lang/AbstractStringBuilder", "coder", "B", false)
  | 2 => ("java/lang/AbstractStringBuilder", "maybeLatin1", "Z", false)
  | _ => ("java/lang/AbstractStringBuilder", "count", "I", false)
theorem nmJ4 : ∀ a, a < 4 → ∀ b, b < 4 → a ≠ b → (TJ4 a).2.1 ≠ (TJ4 b).2.1 := by decide +kernel
abbrev classes : List vw_C := [(RX0, TX0, 7), (RX1, TX1, 4), (RX2, TX2, 7), (RX3, TX3, 3), (RX4, TX4, 3), (RX5, TX5, 14), (RX6, TX6, 2), (RX7, TX7, 9), (RX8, TX8, 6), (RX9, TX9, 4), (RX10, TX10, 15), (RX11, TX11, 6), (RX12, TX12, 81), (RJ4, TJ4, 4)]
def ctab : List (List Nat) := [[5, 5, 5, 0, 0, 0, 0], [5, 5, 5, 0], [5, 1, 0, 0, 0, 0, 0], [5, 5, 0], [5, 0, 0], [5, 5, 5, 5, 5, 5, 0, 0, 0, 0, 0, 0, 0, 0], [5, 0], [5, 5, 5, 5, 5, 0, 0, 0, 0], [5, 5, 5, 0, 0, 0], [0, 0, 0, 0], [5, 5, 5, 5, 5, 0, 0, 0, 0, 0, 0, 0, 0, 0, 1], [5, 5, 5, 5, 5, 5], [5, 0, 0, 5, 5, 5, 5, 0, 0, 0, 0, 5, 5, 0, 0, 0, 0, 0, 0, 1, 5, 5, 5, 5, 5, 5, 5, 5, 5, 5, 5, 5, 5, 5, 5, 5, 0, 0, 0, 5, 5, 5, 5, 5, 5, 5, 5, 5, 5, 5, 5, 5, 5, 5, 5, 5, 5, 5, 0, 4, 0, 1, 5, 5, 5, 5, 5, 5, 0, 5, 5, 5, 5, 5, 5, 5, 5, 0, 0, 5, 0], [5, 2, 1, 0]]
def xsel : List MethodName := [⟨"java/lang/AbstractStringBuilder", "ensureCapacityInternal", "(I)V"⟩, ⟨"java/lang/AbstractStringBuilder", "newCapacity", "(I)I"⟩]
def XT : List Cond := xsel.map (fun y => Cond.selects "java/lang/StringBuilder" y y) ++ lw_tbl
theorem xsel_ok : ∀ y ∈ xsel, (y.cls ≠ "java/lang/invoke/MethodHandle" ∧ y.cls ≠ "java/lang/invoke/VarHandle") ∧ Cond.privateMethod y ∈ tables_1 ∧ Cond.instanceMethod y ∈ tables_1 := by decide +kernel
theorem xsel_cl : ∀ y ∈ xsel, "java/lang/AbstractStringBuilder" = y.cls := by decide +kernel
theorem xsel_sb : Cond.instantiable "java/lang/StringBuilder" 4 ∈ tables_1 := by decide +kernel
theorem xsel_l1 : Cond.selects "java/lang/StringBuilder" ⟨"java/lang/AbstractStringBuilder", "isLatin1", "()Z"⟩ ⟨"java/lang/AbstractStringBuilder", "isLatin1", "()Z"⟩ ∈ tables_1 := by decide +kernel
theorem xt_selects {C : String} {y z : MethodName} {s : State} {args : Array Value} {n : Nat} (hz : z.cls = y.cls) (hsz : (Cond.selects C z z).before args s = true) (hy : y.cls ≠ "java/lang/invoke/MethodHandle" ∧ y.cls ≠ "java/lang/invoke/VarHandle")
    (hins : (Cond.instantiable C n).before args s = true) (hpriv : (Cond.privateMethod y).before args s = true) (hinst : (Cond.instanceMethod y).before args s = true) :
    (Cond.selects C y y).before args s = true := by
  obtain ⟨c, k, hc, hk, -, hniab, -, -⟩ := Cond.instantiable_spec hins
  obtain ⟨c2, r2, m2, q1, q2, q3, q4, kP, hkP, hkPi⟩ := Cond.selects_spec hsz
  obtain ⟨mk, methM, hnamed, hmethM, -, -⟩ := Cond.instanceMethod_spec hinst
  have hmc : mk.cls = m2.cls := Option.some.inj ((findClass_of_methodNamed hnamed).symm.trans (show s.vm.findClass y.cls = some m2.cls from hz ▸ findClass_of_methodNamed q3))
  have hfound : s.methodFound? y.cls y.name y.desc = some mk := State.methodFound?_of_named hnamed hy
  have hsel : selectMethod {} s.vm c mk = .method mk := selectMethod_private hmethM (Cond.privateMethod_at hpriv mk methM hnamed hmethM)
  simp only [Cond.before, Cond.holds, Cond.value, hc, hfound, hnamed, hsel, hmc, hkP]
  simp; exact hkPi
theorem xt_hts {args : Array Value} {s : State} (hts : ∀ w ∈ lw_tbl, w.before args s = true) : ∀ w ∈ XT, w.before args s = true := by
  intro w hw
  rcases List.mem_append.mp hw with hw | hw
  · obtain ⟨y, hy, rfl⟩ := List.mem_map.mp hw
    obtain ⟨h0, h1, h2⟩ := xsel_ok y hy
    have tm : ∀ w ∈ tables_1, w.before args s = true := fun w h => hts w (List.mem_append_right _ h)
    exact xt_selects (z := ⟨"java/lang/AbstractStringBuilder", "isLatin1", "()Z"⟩) (xsel_cl y hy) (tm _ xsel_l1) h0 (tm _ xsel_sb) (tm _ h1) (tm _ h2)
  · exact hts w hw
def hasW (i : Nat) (w : Cond) : Bool := decide (XT[i]? = some w) && goodWord w
def ALL : List Cond := XT.filter goodWord
def isNest : Cond → Bool
  | .fieldLinkNest .. => true
  | .methodLinkNest .. => true
  | _ => false
def NEST : List Cond := XT.filter isNest
def hasN (i : Nat) (w : Cond) : Bool := decide (XT[i]? = some w) && isNest w
theorem hasN_mem {i : Nat} {w : Cond} (h : hasN i w = true) : w ∈ NEST := by
  unfold hasN at h
  rw [Bool.and_eq_true, decide_eq_true_eq] at h
  exact List.mem_filter.mpr ⟨List.mem_of_getElem? h.1, h.2⟩
def hasX (i : Nat) (w : Cond) : Bool := decide (XT[i]? = some w)
theorem hasX_mem {i : Nat} {w : Cond} (h : hasX i w = true) : w ∈ XT := List.mem_of_getElem? (of_decide_eq_true h)
theorem hasW_mem {i : Nat} {w : Cond} (h : hasW i w = true) : w ∈ ALL := by
  unfold hasW at h
  rw [Bool.and_eq_true, decide_eq_true_eq] at h
  exact List.mem_filter.mpr ⟨List.mem_of_getElem? h.1, h.2⟩
theorem lay_X0 : (List.range 7).all (fun k => hasW (([410, 412, 414, 416, 418, 420, 422] : List Nat).getD k 0) (u_lay RX0 TX0 k)) = true := by decide +kernel
theorem tc_X0 : (List.range 7).all (fun k => (parseFieldDescriptor (TX0 k).2.2.1).isSome) = true := by decide +kernel
theorem lay_X1 : (List.range 4).all (fun k => hasW (([512, 514, 516, 518] : List Nat).getD k 0) (u_lay RX1 TX1 k)) = true := by decide +kernel
theorem tc_X1 : (List.range 4).all (fun k => (parseFieldDescriptor (TX1 k).2.2.1).isSome) = true := by decide +kernel
theorem lay_X2 : (List.range 7).all (fun k => hasW (([308, 310, 312, 314, 316, 318, 320] : List Nat).getD k 0) (u_lay RX2 TX2 k)) = true := by decide +kernel
theorem tc_X2 : (List.range 7).all (fun k => (parseFieldDescriptor (TX2 k).2.2.1).isSome) = true := by decide +kernel
theorem lay_X3 : (List.range 3).all (fun k => hasW (([271, 273, 275] : List Nat).getD k 0) (u_lay RX3 TX3 k)) = true := by decide +kernel
theorem tc_X3 : (List.range 3).all (fun k => (parseFieldDescriptor (TX3 k).2.2.1).isSome) = true := by decide +kernel
theorem lay_X4 : (List.range 3).all (fun k => hasW (([248, 250, 252] : List Nat).getD k 0) (u_lay RX4 TX4 k)) = true := by decide +kernel
theorem tc_X4 : (List.range 3).all (fun k => (parseFieldDescriptor (TX4 k).2.2.1).isSome) = true := by decide +kernel
theorem lay_X5 : (List.range 14).all (fun k => hasW (([362, 364, 366, 368, 370, 372, 374, 376, 378, 380, 382, 384, 386, 388] : List Nat).getD k 0) (u_lay RX5 TX5 k)) = true := by decide +kernel
theorem tc_X5 : (List.range 14).all (fun k => (parseFieldDescriptor (TX5 k).2.2.1).isSome) = true := by decide +kernel
theorem lay_X6 : (List.range 2).all (fun k => hasW (([494, 496] : List Nat).getD k 0) (u_lay RX6 TX6 k)) = true := by decide +kernel
theorem tc_X6 : (List.range 2).all (fun k => (parseFieldDescriptor (TX6 k).2.2.1).isSome) = true := by decide +kernel
theorem lay_X7 : (List.range 9).all (fun k => hasW (([154, 156, 158, 160, 162, 164, 166, 168, 170] : List Nat).getD k 0) (u_lay RX7 TX7 k)) = true := by decide +kernel
theorem tc_X7 : (List.range 9).all (fun k => (parseFieldDescriptor (TX7 k).2.2.1).isSome) = true := by decide +kernel
theorem lay_X8 : (List.range 6).all (fun k => hasW (([220, 222, 224, 226, 228, 230] : List Nat).getD k 0) (u_lay RX8 TX8 k)) = true := by decide +kernel
theorem tc_X8 : (List.range 6).all (fun k => (parseFieldDescriptor (TX8 k).2.2.1).isSome) = true := by decide +kernel
theorem lay_X9 : (List.range 4).all (fun k => hasW (([195, 197, 199, 201] : List Nat).getD k 0) (u_lay RX9 TX9 k)) = true := by decide +kernel
theorem tc_X9 : (List.range 4).all (fun k => (parseFieldDescriptor (TX9 k).2.2.1).isSome) = true := by decide +kernel
theorem lay_X10 : (List.range 15).all (fun k => hasW (([455, 457, 459, 461, 463, 465, 467, 469, 471, 473, 475, 477, 479, 481, 483] : List Nat).getD k 0) (u_lay RX10 TX10 k)) = true := by decide +kernel
theorem tc_X10 : (List.range 15).all (fun k => (parseFieldDescriptor (TX10 k).2.2.1).isSome) = true := by decide +kernel
theorem lay_X11 : (List.range 6).all (fun k => hasW (([527, 529, 531, 533, 535, 537] : List Nat).getD k 0) (u_lay RX11 TX11 k)) = true := by decide +kernel
theorem tc_X11 : (List.range 6).all (fun k => (parseFieldDescriptor (TX11 k).2.2.1).isSome) = true := by decide +kernel
theorem lay_X12 : (List.range 81).all (fun k => hasW (([1379, 1381, 1383, 1385, 1387, 1389, 1391, 1393, 1395, 1397, 1399, 1401, 1403, 1405, 1407, 1409, 1411, 1413, 1415, 1417, 1419, 1421, 1423, 1425, 1427, 1429, 1431, 1433, 1435, 1437, 1439, 1441, 1443, 1445, 1447, 1449, 1451, 1453, 1455, 1457, 1459, 1461, 1463, 1465, 1467, 1469, 1471, 1473, 1475, 1477, 1479, 1481, 1483, 1485, 1487, 1489, 1491, 1493, 1495, 1497, 1499, 1501, 1503, 1505, 1507, 1509, 1511, 1513, 1515, 1517, 1519, 1521, 1523, 1525, 1527, 1529, 1531, 1533, 1535, 1537, 1539] : List Nat).getD k 0) (u_lay RX12 TX12 k)) = true := by decide +kernel
theorem tc_X12 : (List.range 81).all (fun k => (parseFieldDescriptor (TX12 k).2.2.1).isSome) = true := by decide +kernel
theorem lay_J4 : (List.range 4).all (fun k => hasW (([122, 124, 126, 128] : List Nat).getD k 0) (u_lay RJ4 TJ4 k)) = true := by decide +kernel
theorem tc_J4 : (List.range 4).all (fun k => (parseFieldDescriptor (TJ4 k).2.2.1).isSome) = true := by decide +kernel
def owns : List String := ["java/lang/AbstractStringBuilder", "java/lang/StringBuilder", "PipelineSimulator$Reader", "PipelineSimulator$Settings", "PipelineSimulator$Records", "PipelineSimulator$Latencies", "PipelineSimulator$Keyed", "PipelineSimulator$Instance", "PipelineSimulator$Operator", "PipelineSimulator$Channel", "PipelineSimulator$Simulation", "PipelineSimulator$Plain", "PipelineSimulator$Explanation", "PipelineSimulator", "PipelineSimulatorModel", "java/lang/Math", "jdk/internal/util/ArraysSupport", "java/util/Arrays", "java/lang/StringLatin1", "jdk/internal/util/Preconditions", "java/lang/String", "java/lang/Integer", "PipelineSimulatorLaw"]
def oN (i : Nat) : String := owns.getD i ""
